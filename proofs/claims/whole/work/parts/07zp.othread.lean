section TPOT
variable {b : Nat} {σ : tw_St}
theorem o_ofThread (h : pV b σ) (x1 x2 : Int32) : ∃ r σ2, fX7_ofThread σ b x1 x2 = some r ∧ fX8_ofThread σ (b + 160) x1 x2 = some (r, σ2) ∧ pV b σ2 := by
  obtain ⟨n, sh, P, I⟩ := σ
  obtain ⟨C, sw, hok, hl, hm, hI, hM⟩ := h
  dsimp only at hl hm hI hM
  have hv := pV.same (n := n) hok hl hm hI hM
  have hru := hl.2.2.1
  have hst := hl.2.1
  unfold fX7_ofThread fX8_ofThread
  rw [c_is hl, Option.bind_some, q_is hm, Option.bind_some]
  rcases tp_th x1 with ⟨t, ht, rfl⟩ | hno
  · rw [c_thread _ ht, q_thread _ ht, Option.bind_some, Option.bind_some, if_neg (show ¬ nI 1 = 0 by decide), if_neg (show ¬ nI 1 = 0 by decide)]
    obtain ⟨I', e, hD, hM', f⟩ := q_runC (n := n) hm hok hM
    rw [e, Option.bind_some]
    dsimp only
    have hv' := pV.same (n := n) hok hl hm (hI.kept (fun c hc => f c (by omega))) hM'
    have hall := hD.all ht
    have hK : pMK C.1 (tp_Kf C.1 2) 2 := fun t ht => tp_Kf_K ht
    have hKt : ∀ t, t < 2 → tp_Kf C.1 2 t ≤ 100 := fun t ht => (hK t ht).1
    have hKK := hK t ht
    rw [if_neg (show ¬ t = 2 by omega)] at hKK
    obtain ⟨tk, hG, hB, hk, hE, -⟩ := hD
    obtain ⟨tk', hF, hRI, hB', hk'⟩ := hI.2.1
    obtain ⟨g1, ⟨-, g2⟩, g3, g4, g5, g6, p, g7, g8⟩ := hG t ht
    obtain ⟨j1, j2, j3, j4, -⟩ := hRI t ht
    obtain ⟨c1, -, -⟩ := hI.1.2 t ht
    have hpr := (hst.2.2.2.2.2.2.2.2 t ht).2.1
    have h12 := (hok.1.2.2.2 t ht).1
    have hpa := (hru.2.2 t ht).2.1
    have hod := tp_od_lt hok.1 hK ht (show t ≠ 2 by omega) (Nat.le_refl _)
    rw [if_neg (show ¬ (tp_res C.1 2).1 t < tp_Kf C.1 2 t by omega)] at g8
    rcases tp_x x2 11 with hneg | ⟨a, ha, ha2, rfl⟩ | ⟨a, ha, ha2, rfl⟩
    · have hne : ∀ k : Int32, ¬ k < 0 → ¬ x2 = k := fun k hk z => hk (z ▸ hneg)
      rw [if_neg (hne 0 (by decide)), if_neg (hne 1 (by decide)), if_neg (hne 2 (by decide)), if_neg (hne 3 (by decide)), if_neg (hne 4 (by decide)), if_neg (hne 5 (by decide)), if_neg (hne 6 (by decide)), if_neg (hne 7 (by decide)), if_neg (hne 8 (by decide)), if_neg (hne 9 (by decide)), if_neg (hne 10 (by decide))]
      rw [if_neg (hne 0 (by decide)), if_neg (hne 1 (by decide)), if_neg (hne 2 (by decide)), if_neg (hne 3 (by decide)), if_neg (hne 8 (by decide)), if_neg (hne 9 (by decide)), if_neg (hne 10 (by decide))]
      unfold fX8_ofThread_b158
      rw [show (4 : Int32) = nI 4 from rfl, q_in_neg _ hneg (by decide), Option.bind_some, if_pos (show nI 0 = 0 from rfl)]
      exact ⟨_, _, rfl, rfl, hv'⟩
    · rcases (show a = 0 ∨ a = 1 ∨ a = 2 ∨ a = 3 ∨ a = 4 ∨ a = 5 ∨ a = 6 ∨ a = 7 ∨ a = 8 ∨ a = 9 ∨ a = 10 by omega) with rfl | rfl | rfl | rfl | rfl | rfl | rfl | rfl | rfl | rfl | rfl
      · rw [if_pos (show nI 0 = 0 from rfl)]
        rw [if_pos (show nI 0 = 0 from rfl)]
        rw [q_many hm hM'.1 ht, Option.bind_some, c_P0 hl, Option.bind_some, r_sP1 hst, Option.bind_some, r_spg hst ht, Option.bind_some, e_gI hpr.1, Option.bind_some, c1]
        exact ⟨_, _, rfl, rfl, hv'⟩
      · rw [if_neg (show ¬ nI 1 = 0 by decide), if_pos (show nI 1 = 1 from rfl)]
        rw [if_neg (show ¬ nI 1 = 0 by decide), if_pos (show nI 1 = 1 from rfl)]
        rw [q_P17 hm, Option.bind_some, q_a13 hm ht, Option.bind_some, g1, c_P1 hl, Option.bind_some, r_P1 hru, Option.bind_some, r_a8 hru ht, Option.bind_some, j1]
        exact ⟨_, _, rfl, rfl, hv'⟩
      · rw [if_neg (show ¬ nI 2 = 0 by decide), if_neg (show ¬ nI 2 = 1 by decide), if_pos (show nI 2 = 2 from rfl)]
        rw [if_neg (show ¬ nI 2 = 0 by decide), if_neg (show ¬ nI 2 = 1 by decide), if_pos (show nI 2 = 2 from rfl)]
        rw [q_lengthOf hm hK hB hk hG hE ht, Option.bind_some, c_P1 hl, Option.bind_some, r_P2 hru, Option.bind_some, r_a9 hru ht, Option.bind_some, j2]
        exact ⟨_, _, rfl, rfl, hv'⟩
      · rw [if_neg (show ¬ nI 3 = 0 by decide), if_neg (show ¬ nI 3 = 1 by decide), if_neg (show ¬ nI 3 = 2 by decide), if_pos (show nI 3 = 3 from rfl)]
        rw [if_neg (show ¬ nI 3 = 0 by decide), if_neg (show ¬ nI 3 = 1 by decide), if_neg (show ¬ nI 3 = 2 by decide), if_pos (show nI 3 = 3 from rfl)]
        have hpg := (hF t ht).2.2.1
        rw [c_P1 hl, Option.bind_some, r_P0 hru, Option.bind_some, r_p1 hru ht, Option.bind_some, e_gI hpa.1, Option.bind_some, hpg]
        rw [q_P17 hm, Option.bind_some, q_a13 hm ht, Option.bind_some, g1, hall]
        have hcl : (if nI (if tp_od C.1 t (tp_Kf C.1 2 t) < C.1.2.1 t then 1 else 0) = 0 then some (0 : Int32) else some 1) = some (nI (if tp_od C.1 t (tp_Kf C.1 2 t) < C.1.2.1 t then 1 else 0)) := by split <;> rfl
        rw [hcl]
        by_cases e1 : tp_Kf C.1 2 t = 100
        · rw [if_pos (show nI (tp_Kf C.1 2 t) = 100 by rw [e1]; rfl), q_P18 hm, Option.bind_some, q_a14 hm ht, Option.bind_some, g2 (by omega), hall, q_many hm hM'.1 ht, Option.bind_some, tp_0, tp_1, q_inz' _ (by omega) (by omega), Option.bind_some]
          by_cases e2 : tp_od C.1 t (tp_Kf C.1 2 t) < C.1.2.1 t
          · rw [if_pos e2, if_neg (show ¬ nI 1 = nI 0 by decide)]
            exact ⟨_, _, rfl, rfl, hv'⟩
          · rw [if_neg e2, if_pos rfl]
            exact ⟨_, _, rfl, rfl, hv'⟩
        · have hz := hKK.2.2 (by have := hKK.1; omega)
          have hz' : C.1.2.1 t ≤ tp_od C.1 t (tp_Kf C.1 2 t) := hz
          rw [if_neg (show ¬ nI (tp_Kf C.1 2 t) = 100 from fun z => e1 ((nI_eq (by have := hKK.1; omega) (by decide)).mp (z.trans (show (100 : Int32) = nI 100 from rfl)))), if_neg (show ¬ tp_od C.1 t (tp_Kf C.1 2 t) < C.1.2.1 t by omega)]
          exact ⟨_, _, rfl, rfl, hv'⟩
      · rw [if_neg (show ¬ nI 4 = 0 by decide), if_neg (show ¬ nI 4 = 1 by decide), if_neg (show ¬ nI 4 = 2 by decide), if_neg (show ¬ nI 4 = 3 by decide), if_pos (show nI 4 = 4 from rfl)]
        rw [if_neg (show ¬ nI 4 = 0 by decide), if_neg (show ¬ nI 4 = 1 by decide), if_neg (show ¬ nI 4 = 2 by decide), if_neg (show ¬ nI 4 = 3 by decide), if_neg (show ¬ nI 4 = 8 by decide), if_neg (show ¬ nI 4 = 9 by decide), if_neg (show ¬ nI 4 = 10 by decide)]
        unfold fX8_ofThread_b158
        obtain ⟨w1, w2, w3⟩ := g7 1 (by decide) (by decide)
        have hp0 : p 1 = 0 := by omega
        rw [hp0, Nat.sub_zero] at w2
        rw [show (4 : Int32) = nI 4 from rfl, show (7 : Int32) = nI 7 from rfl, show (5 : Int32) = nI 5 from rfl, show (3 : Int32) = nI 3 from rfl, q_in _ (by decide) (by decide) (by decide), if_pos (by decide), Option.bind_some, if_neg (show ¬ nI 1 = 0 by decide), q_P19 hm, Option.bind_some, pk_mul, nI_add, pk_sub (by omega), show 5 * t + 4 - 3 = 5 * t + 1 by omega, q_a15 hm (by omega), Option.bind_some, w2]
        rw [c_P1 hl, Option.bind_some, r_P5 hru, Option.bind_some, r_p16 hru ht, Option.bind_some, show (1 : Int32) = nI 1 from rfl, r_r17 hru ht (by decide), Option.bind_some, j4 1 (by decide) (by decide)]
        exact ⟨_, _, rfl, rfl, hv'⟩
      · rw [if_neg (show ¬ nI 5 = 0 by decide), if_neg (show ¬ nI 5 = 1 by decide), if_neg (show ¬ nI 5 = 2 by decide), if_neg (show ¬ nI 5 = 3 by decide), if_neg (show ¬ nI 5 = 4 by decide), if_pos (show nI 5 = 5 from rfl)]
        rw [if_neg (show ¬ nI 5 = 0 by decide), if_neg (show ¬ nI 5 = 1 by decide), if_neg (show ¬ nI 5 = 2 by decide), if_neg (show ¬ nI 5 = 3 by decide), if_neg (show ¬ nI 5 = 8 by decide), if_neg (show ¬ nI 5 = 9 by decide), if_neg (show ¬ nI 5 = 10 by decide)]
        unfold fX8_ofThread_b158
        obtain ⟨w1, w2, w3⟩ := g7 2 (by decide) (by decide)
        have hp0 : p 2 = 0 := by omega
        rw [hp0, Nat.sub_zero] at w2
        rw [show (4 : Int32) = nI 4 from rfl, show (7 : Int32) = nI 7 from rfl, show (5 : Int32) = nI 5 from rfl, show (3 : Int32) = nI 3 from rfl, q_in _ (by decide) (by decide) (by decide), if_pos (by decide), Option.bind_some, if_neg (show ¬ nI 1 = 0 by decide), q_P19 hm, Option.bind_some, pk_mul, nI_add, pk_sub (by omega), show 5 * t + 5 - 3 = 5 * t + 2 by omega, q_a15 hm (by omega), Option.bind_some, w2]
        rw [c_P1 hl, Option.bind_some, r_P5 hru, Option.bind_some, r_p16 hru ht, Option.bind_some, show (2 : Int32) = nI 2 from rfl, r_r17 hru ht (by decide), Option.bind_some, j4 2 (by decide) (by decide)]
        exact ⟨_, _, rfl, rfl, hv'⟩
      · rw [if_neg (show ¬ nI 6 = 0 by decide), if_neg (show ¬ nI 6 = 1 by decide), if_neg (show ¬ nI 6 = 2 by decide), if_neg (show ¬ nI 6 = 3 by decide), if_neg (show ¬ nI 6 = 4 by decide), if_neg (show ¬ nI 6 = 5 by decide), if_pos (show nI 6 = 6 from rfl)]
        rw [if_neg (show ¬ nI 6 = 0 by decide), if_neg (show ¬ nI 6 = 1 by decide), if_neg (show ¬ nI 6 = 2 by decide), if_neg (show ¬ nI 6 = 3 by decide), if_neg (show ¬ nI 6 = 8 by decide), if_neg (show ¬ nI 6 = 9 by decide), if_neg (show ¬ nI 6 = 10 by decide)]
        unfold fX8_ofThread_b158
        obtain ⟨w1, w2, w3⟩ := g7 3 (by decide) (by decide)
        have hp0 : p 3 = 0 := by omega
        rw [hp0, Nat.sub_zero] at w2
        rw [show (4 : Int32) = nI 4 from rfl, show (7 : Int32) = nI 7 from rfl, show (5 : Int32) = nI 5 from rfl, show (3 : Int32) = nI 3 from rfl, q_in _ (by decide) (by decide) (by decide), if_pos (by decide), Option.bind_some, if_neg (show ¬ nI 1 = 0 by decide), q_P19 hm, Option.bind_some, pk_mul, nI_add, pk_sub (by omega), show 5 * t + 6 - 3 = 5 * t + 3 by omega, q_a15 hm (by omega), Option.bind_some, w2]
        rw [c_P1 hl, Option.bind_some, r_P5 hru, Option.bind_some, r_p16 hru ht, Option.bind_some, r_r17 hru ht (by decide), Option.bind_some, j4 3 (by decide) (by decide)]
        exact ⟨_, _, rfl, rfl, hv'⟩
      · rw [if_neg (show ¬ nI 7 = 0 by decide), if_neg (show ¬ nI 7 = 1 by decide), if_neg (show ¬ nI 7 = 2 by decide), if_neg (show ¬ nI 7 = 3 by decide), if_neg (show ¬ nI 7 = 4 by decide), if_neg (show ¬ nI 7 = 5 by decide), if_neg (show ¬ nI 7 = 6 by decide), if_pos (show nI 7 = 7 from rfl)]
        rw [if_neg (show ¬ nI 7 = 0 by decide), if_neg (show ¬ nI 7 = 1 by decide), if_neg (show ¬ nI 7 = 2 by decide), if_neg (show ¬ nI 7 = 3 by decide), if_neg (show ¬ nI 7 = 8 by decide), if_neg (show ¬ nI 7 = 9 by decide), if_neg (show ¬ nI 7 = 10 by decide)]
        unfold fX8_ofThread_b158
        obtain ⟨w1, w2, w3⟩ := g7 4 (by decide) (by decide)
        have hp0 : p 4 = 0 := by omega
        rw [hp0, Nat.sub_zero] at w2
        rw [show (4 : Int32) = nI 4 from rfl, show (7 : Int32) = nI 7 from rfl, show (5 : Int32) = nI 5 from rfl, show (3 : Int32) = nI 3 from rfl, q_in _ (by decide) (by decide) (by decide), if_pos (by decide), Option.bind_some, if_neg (show ¬ nI 1 = 0 by decide), q_P19 hm, Option.bind_some, pk_mul, nI_add, pk_sub (by omega), show 5 * t + 7 - 3 = 5 * t + 4 by omega, q_a15 hm (by omega), Option.bind_some, w2]
        rw [c_P1 hl, Option.bind_some, r_P5 hru, Option.bind_some, r_p16 hru ht, Option.bind_some, r_r17 hru ht (by decide), Option.bind_some, j4 4 (by decide) (by decide)]
        exact ⟨_, _, rfl, rfl, hv'⟩
      · rw [if_neg (show ¬ nI 8 = 0 by decide), if_neg (show ¬ nI 8 = 1 by decide), if_neg (show ¬ nI 8 = 2 by decide), if_neg (show ¬ nI 8 = 3 by decide), if_neg (show ¬ nI 8 = 4 by decide), if_neg (show ¬ nI 8 = 5 by decide), if_neg (show ¬ nI 8 = 6 by decide), if_neg (show ¬ nI 8 = 7 by decide), if_pos (show nI 8 = 8 from rfl)]
        rw [if_neg (show ¬ nI 8 = 0 by decide), if_neg (show ¬ nI 8 = 1 by decide), if_neg (show ¬ nI 8 = 2 by decide), if_neg (show ¬ nI 8 = 3 by decide), if_pos (show nI 8 = 8 from rfl)]
        rw [c_P1 hl, Option.bind_some, p_latest hru ht hRI hB' hKt, Option.bind_some, q_P17 hm, Option.bind_some, q_a13 hm ht, Option.bind_some, g1]
        have hb100 : (tp_res C.1 2).1 t < 2 ^ 31 := by have := hKK.1; omega
        unfold tp_lat
        by_cases e1 : (tp_res C.1 2).1 t = 0
        · rw [if_pos (show nI ((tp_res C.1 2).1 t) = 0 by rw [e1]; rfl), if_pos e1]
          exact ⟨_, _, rfl, rfl, hv'⟩
        · rw [if_neg (show ¬ nI ((tp_res C.1 2).1 t) = 0 from fun z => e1 ((nI_eq hb100 (by decide)).mp (z.trans tp_0))), if_neg e1, q_latest hm hK hB.w hG ht, Option.bind_some]
          unfold tp_lat1
          rw [if_neg e1]
          exact ⟨_, _, rfl, rfl, hv'⟩
      · rw [if_neg (show ¬ nI 9 = 0 by decide), if_neg (show ¬ nI 9 = 1 by decide), if_neg (show ¬ nI 9 = 2 by decide), if_neg (show ¬ nI 9 = 3 by decide), if_neg (show ¬ nI 9 = 4 by decide), if_neg (show ¬ nI 9 = 5 by decide), if_neg (show ¬ nI 9 = 6 by decide), if_neg (show ¬ nI 9 = 7 by decide), if_neg (show ¬ nI 9 = 8 by decide), if_pos (show nI 9 = 9 from rfl)]
        rw [if_neg (show ¬ nI 9 = 0 by decide), if_neg (show ¬ nI 9 = 1 by decide), if_neg (show ¬ nI 9 = 2 by decide), if_neg (show ¬ nI 9 = 3 by decide), if_neg (show ¬ nI 9 = 8 by decide), if_pos (show nI 9 = 9 from rfl)]
        rw [c_P1 hl, Option.bind_some, show (0 : Int32) = nI 0 from rfl, p_stepsIn hru hst hok.1 hI.1 hF hRI hB' ht (by decide), Option.bind_some]
        rw [show nI 9 - 9 = nI 0 by decide, q_stepsOf hm hok.1 hM'.1 hK hB hG ht (by decide), Option.bind_some]
        exact ⟨_, _, rfl, rfl, hv'⟩
      · rw [if_neg (show ¬ nI 10 = 0 by decide), if_neg (show ¬ nI 10 = 1 by decide), if_neg (show ¬ nI 10 = 2 by decide), if_neg (show ¬ nI 10 = 3 by decide), if_neg (show ¬ nI 10 = 4 by decide), if_neg (show ¬ nI 10 = 5 by decide), if_neg (show ¬ nI 10 = 6 by decide), if_neg (show ¬ nI 10 = 7 by decide), if_neg (show ¬ nI 10 = 8 by decide), if_neg (show ¬ nI 10 = 9 by decide), if_pos (show nI 10 = 10 from rfl)]
        rw [if_neg (show ¬ nI 10 = 0 by decide), if_neg (show ¬ nI 10 = 1 by decide), if_neg (show ¬ nI 10 = 2 by decide), if_neg (show ¬ nI 10 = 3 by decide), if_neg (show ¬ nI 10 = 8 by decide), if_neg (show ¬ nI 10 = 9 by decide), if_pos (show nI 10 = 10 from rfl)]
        rw [c_P1 hl, Option.bind_some, show (1 : Int32) = nI 1 from rfl, p_stepsIn hru hst hok.1 hI.1 hF hRI hB' ht (by decide), Option.bind_some]
        rw [show nI 10 - 9 = nI 1 by decide, q_stepsOf hm hok.1 hM'.1 hK hB hG ht (by decide), Option.bind_some]
        exact ⟨_, _, rfl, rfl, hv'⟩
    · have hne : ∀ k : Nat, k < 11 → ¬ nI a = nI k := fun k hk z => by have := (nI_eq ha2 (by omega)).mp z; omega
      rw [if_neg (show ¬ nI a = 0 from hne 0 (by decide)), if_neg (show ¬ nI a = 1 from hne 1 (by decide)), if_neg (show ¬ nI a = 2 from hne 2 (by decide)), if_neg (show ¬ nI a = 3 from hne 3 (by decide)), if_neg (show ¬ nI a = 4 from hne 4 (by decide)), if_neg (show ¬ nI a = 5 from hne 5 (by decide)), if_neg (show ¬ nI a = 6 from hne 6 (by decide)), if_neg (show ¬ nI a = 7 from hne 7 (by decide)), if_neg (show ¬ nI a = 8 from hne 8 (by decide)), if_neg (show ¬ nI a = 9 from hne 9 (by decide)), if_neg (show ¬ nI a = 10 from hne 10 (by decide))]
      rw [if_neg (show ¬ nI a = 0 from hne 0 (by decide)), if_neg (show ¬ nI a = 1 from hne 1 (by decide)), if_neg (show ¬ nI a = 2 from hne 2 (by decide)), if_neg (show ¬ nI a = 3 from hne 3 (by decide)), if_neg (show ¬ nI a = 8 from hne 8 (by decide)), if_neg (show ¬ nI a = 9 from hne 9 (by decide)), if_neg (show ¬ nI a = 10 from hne 10 (by decide))]
      unfold fX8_ofThread_b158
      rw [show (4 : Int32) = nI 4 from rfl, show (7 : Int32) = nI 7 from rfl, q_in _ ha2 (by decide) (by decide), if_neg (show ¬ (4 ≤ a ∧ a ≤ 7) by omega), Option.bind_some, if_pos (show nI 0 = 0 from rfl)]
      exact ⟨_, _, rfl, rfl, hv'⟩
  · rw [c_noThread _ hno, q_noThread _ hno, Option.bind_some, Option.bind_some, if_pos (show nI 0 = 0 from rfl), if_pos (show nI 0 = 0 from rfl)]
    exact ⟨_, _, rfl, rfl, hv⟩
end TPOT
