theorem pMS.keep {I I' : Nat → Nat → Int32} {A off : Nat} {S : tp_S} (h : pMS I A off S) (e : I' A = I A) : pMS I' A off S := by
  unfold pMS at *
  rw [e]; exact h
section TPX
variable {n : Nat} {sh : tw_Sh} {P : Nat → Nat → Option Nat} {I : Nat → Nat → Int32} {m t k ab tick wo turns : Nat} {S : tp_S} {K : Nat → Nat} {R : tp_R} {tau : Nat → Nat}
theorem q_begin (hm : pMo sh P m) (hok : pSok S) (hS : pMS I (m + 1) 0 S) (hK : pMK S K ab) {tb : Nat} (hB : pRw K R tb) (htb : tb ≤ 4097) (hG : pMG I m S K R ab tau) (hk : tick ≤ 4096) (ht : t < 2) (ho : R.1 t < K t) (htau : tau t = tick) (hsa : tp_since R t ≤ tick) :
    ∃ I', fX8_begin (n, sh, P, I) m (nI t) (nI tick) = some (n, sh, P, I') ∧ pMG I' m S K (tp_start S R t tick) ab (fun u => if u = t then tick + 1 else tau u) ∧ ∀ c, (c < m + 7 ∨ m + 19 ≤ c) → I' c = I c := by
  obtain ⟨g1, ⟨-, g2⟩, g3, g4, g5, g6, p, g7, g8⟩ := hG t ht
  obtain ⟨hab, hin⟩ := hK.in ht ho
  have hz : ∀ t, t < 2 → S.2.1 t ≤ 12 := fun t ht => (hok.2.2.2 t ht).1
  have hz12 := hz t ht
  have hK100 := (hK t ht).1
  have hod := tp_od_lt hok hK ht hab (show R.1 t ≤ K t by omega)
  have hord := (hok.2.2.2 t ht).2.1 _ hin
  have hrl := tp_room_lt (tp_of S t (R.1 t) 0)
  have hdur := tp_dur_lt hok (tp_room (tp_of S t (R.1 t) 0))
  have hof := q_of (n := n) (k := tp_od S t (R.1 t)) hm hS hz ht hin (show 0 < 5 by decide)
  have hof' : fX8_of (n, sh, P, I) m (nI t) (nI (tp_od S t (R.1 t))) (nI 0) = some (tp_of S t (R.1 t) 0) := hof
  have hs1 := hS.1 1 (by decide)
  have hs2 := hS.1 2 (by decide)
  have hx3 : 100 * t + R.1 t < 200 := by omega
  -- the rows of the step
  have hstart : fX8_begin (n, sh, P, I) m (nI t) (nI tick) = fX8_begin_b67 (n, sh, P, I) m (nI t) (nI tick) (nI (100 * t + R.1 t)) (nI (tp_od S t (R.1 t))) (tp_of S t (R.1 t) 0) (tp_rI (tp_room (tp_of S t (R.1 t) 0))) (nI (tp_dur S (tp_room (tp_of S t (R.1 t) 0)))) := by
    unfold fX8_begin
    rw [tp_1, tp_0, show (100 : Int32) = nI 100 from rfl, show (2 : Int32) = nI 2 from rfl, q_is hm, Option.bind_some, q_P17 hm, Option.bind_some, q_a13 hm ht, Option.bind_some, q_P18 hm, Option.bind_some, q_a14 hm ht, Option.bind_some, g1, g2 hab, hof', Option.bind_some, q_roomOf, Option.bind_some, pk_mul, nI_add]
    generalize tp_room (tp_of S t (R.1 t) 0) = rm at hrl
    rcases (show rm = 0 ∨ rm = 1 ∨ rm = 2 by omega) with rfl | rfl | rfl
    · rw [if_pos (show tp_rI 0 = nI 0 from rfl), q_P0 hm, Option.bind_some, q_a1 hm (by decide), Option.bind_some]
      rw [Nat.zero_add] at hs1
      rw [hs1]; rfl
    · rw [if_neg (show ¬ tp_rI 1 = nI 0 by decide), if_pos (show tp_rI 1 = nI 1 from rfl), q_P0 hm, Option.bind_some, q_a1 hm (by decide), Option.bind_some]
      rw [Nat.zero_add] at hs2
      rw [hs2]; rfl
    · rw [if_neg (show ¬ tp_rI 2 = nI 0 by decide), if_neg (show ¬ tp_rI 2 = nI 1 by decide)]; rfl
  have hRdef : tp_start S R t tick = (tp_u R.1 t (R.1 t + 1), tw_up R.2.1 t (R.1 t) tick, tw_up R.2.2.1 t (R.1 t) (tick + tp_dur S (tp_room (tp_of S t (R.1 t) 0))), (tp_start S R t tick).2.2.2) := rfl
  generalize hdv : tp_dur S (tp_room (tp_of S t (R.1 t) 0)) = du at *
  generalize hJ : tw_up (tw_up (tw_up (tw_up I (m + 9) (100 * t + R.1 t) (nI tick)) (m + 10) (100 * t + R.1 t) (nI (tp_od S t (R.1 t)))) (m + 11) (100 * t + R.1 t) (nI (tick + du))) (m + 12) (100 * t + R.1 t) (nI 0) = J
  have hJc : ∀ c, c ≠ m + 9 → c ≠ m + 10 → c ≠ m + 11 → c ≠ m + 12 → J c = I c := fun c c1 c2 c3 c4 => by rw [← hJ, tw_up_a c4, tw_up_a c3, tw_up_a c2, tw_up_a c1]
  obtain ⟨J2, e2, l1, l2, l3, l4, l5⟩ := q_beginLoop (n := n) (J := J) (p := p) (w := fun k => R.2.2.2.1 t k - p k) hm ht hx3 (nI tick) (nI (tp_od S t (R.1 t))) (tp_of S t (R.1 t) 0) (tp_rI (tp_room (tp_of S t (R.1 t) 0))) (nI du) (by rw [← hJ, tw_up_at]) (fun k h1 h2 => by
    rw [hJc (m + 15) (by omega) (by omega) (by omega) (by omega), hJc (m + 16) (by omega) (by omega) (by omega) (by omega)]
    exact (g7 k h1 h2).2)
  have h67 : fX8_begin_b67 (n, sh, P, I) m (nI t) (nI tick) (nI (100 * t + R.1 t)) (nI (tp_od S t (R.1 t))) (tp_of S t (R.1 t) 0) (tp_rI (tp_room (tp_of S t (R.1 t) 0))) (nI du) = fX8_begin_b173 (n, sh, P, J2) m (nI t) (nI tick) (nI (tp_od S t (R.1 t))) (tp_of S t (R.1 t) 0) (tp_rI (tp_room (tp_of S t (R.1 t) 0))) (nI du) := by
    unfold fX8_begin_b67
    rw [tp_1, tp_0, q_P13 hm, Option.bind_some, q_w9 hm hx3, Option.bind_some, q_P14 hm, Option.bind_some, q_w10 hm hx3, Option.bind_some, q_P15 hm, Option.bind_some, nI_add, q_w11 hm hx3, Option.bind_some, q_P16 hm, Option.bind_some, q_w12 hm hx3, Option.bind_some, hJ, e2]
  have hJ2c : ∀ c, c ≠ m + 9 → c ≠ m + 10 → c ≠ m + 11 → c ≠ m + 12 → c ≠ m + 15 → c ≠ m + 16 → J2 c = I c := fun c c1 c2 c3 c4 c5 c6 => by rw [l5 c c4 c5 c6, hJc c c1 c2 c3 c4]
  have hS2 : pMS J2 (m + 1) 0 S := hS.keep (hJ2c _ (by omega) (by omega) (by omega) (by omega) (by omega) (by omega))
  -- the register it gives
  have hA : ∃ J3, fX8_begin_b173 (n, sh, P, J2) m (nI t) (nI tick) (nI (tp_od S t (R.1 t))) (tp_of S t (R.1 t) 0) (tp_rI (tp_room (tp_of S t (R.1 t) 0))) (nI du) = fX8_begin_b200 (n, sh, P, J3) m (nI t) (nI tick) (nI (tp_od S t (R.1 t))) (tp_rI (tp_room (tp_of S t (R.1 t) 0))) (nI du) ∧ (∀ c, c ≠ m + 8 → J3 c = J2 c) ∧ ∀ t', t' < 2 → ∀ r, r < 4 → J3 (m + 8) (4 * t' + r) = nI ((tp_start S R t tick).2.2.2.2.1 t' r) := by
    have hrow : J2 (m + 8) = I (m + 8) := hJ2c _ (by omega) (by omega) (by omega) (by omega) (by omega) (by omega)
    obtain ⟨kd, hkd, hkde⟩ := hord.kind
    have hkde' : tp_of S t (R.1 t) 0 = nI kd := hkde
    have hrd : (tp_start S R t tick).2.2.2.2.1 = if tp_gives S t (R.1 t) = true then tw_up R.2.2.2.2.1 t (tp_n (tp_of S t (R.1 t) 1)) (tick + du) else R.2.2.2.2.1 := by rw [← hdv]; rfl
    unfold fX8_begin_b173
    rw [hrd, tp_1, show (5 : Int32) = nI 5 from rfl, hkde']
    by_cases e : 5 ≤ kd
    · rw [if_pos ((nI_leI (by decide) (by omega)).mpr e)]
      have hg : tp_gives S t (R.1 t) = false := by
        unfold tp_gives
        rw [hkde']
        rcases (show kd = 5 ∨ kd = 6 by omega) with rfl | rfl <;> decide
      rw [hg, if_neg (by decide)]
      exact ⟨J2, rfl, fun _ _ => rfl, fun t' ht' r hr => by rw [hrow]; exact (hG t' ht').2.2.2.1 r hr⟩
    · rw [if_neg (fun z => e ((nI_leI (by decide) (by omega)).mp z))]
      have hg : tp_gives S t (R.1 t) = true := by
        unfold tp_gives
        rw [hkde']
        rcases (show kd = 0 ∨ kd = 1 ∨ kd = 2 ∨ kd = 3 ∨ kd = 4 by omega) with rfl | rfl | rfl | rfl | rfl <;> decide
      obtain ⟨-, r, hr4, hr⟩ := hord.reg
      have hof1 := q_of (n := n) (k := tp_od S t (R.1 t)) hm hS2 hz ht hin (show 1 < 5 by decide)
      have hr' : tp_of S t (R.1 t) 1 = nI r := hr
      rw [hr] at hof1
      rw [hg, if_pos rfl, hr', tp_n_nI (by omega), q_P12 hm, Option.bind_some, hof1, Option.bind_some, show (4 : Int32) = nI 4 from rfl, pk_mul, nI_add, nI_add, q_w8 hm (by omega), Option.bind_some]
      refine ⟨_, rfl, fun c hc => tw_up_a hc, fun t' ht' r' hr'4 => ?_⟩
      by_cases e3 : t' = t ∧ r' = r
      · rw [e3.1, e3.2, tw_up_at, tw_up_at]
      · rw [tw_up_k (by omega), hrow, (hG t' ht').2.2.2.1 r' hr'4]
        unfold tw_up
        rw [if_neg e3]
  obtain ⟨J3, e3, a1, a2⟩ := hA
  -- the room
  have hBm : ∃ J4, fX8_begin_b200 (n, sh, P, J3) m (nI t) (nI tick) (nI (tp_od S t (R.1 t))) (tp_rI (tp_room (tp_of S t (R.1 t) 0))) (nI du) = fX8_begin_b224 (n, sh, P, J4) m (nI t) (nI (tp_od S t (R.1 t))) ∧ (∀ c, c ≠ m + 17 → c ≠ m + 18 → J4 c = J3 c) ∧ ∀ r, r < 2 → J4 (m + 17) r = nI ((tp_start S R t tick).2.2.2.2.2.1 r) ∧ (0 < (tp_start S R t tick).2.2.2.2.2.1 r → J4 (m + 18) r = nI ((tp_start S R t tick).2.2.2.2.2.2.1 r)) := by
    have hr17 : J3 (m + 17) = I (m + 17) := by rw [a1 _ (by omega)]; exact hJ2c _ (by omega) (by omega) (by omega) (by omega) (by omega) (by omega)
    have hr18 : J3 (m + 18) = I (m + 18) := by rw [a1 _ (by omega)]; exact hJ2c _ (by omega) (by omega) (by omega) (by omega) (by omega) (by omega)
    have hf1 : (tp_start S R t tick).2.2.2.2.2.1 = if tp_room (tp_of S t (R.1 t) 0) = 2 then R.2.2.2.2.2.1 else tp_u R.2.2.2.2.2.1 (tp_room (tp_of S t (R.1 t) 0)) (tick + du) := by rw [← hdv]; rfl
    have hf2 : (tp_start S R t tick).2.2.2.2.2.2.1 = if tp_room (tp_of S t (R.1 t) 0) = 2 then R.2.2.2.2.2.2.1 else tp_u R.2.2.2.2.2.2.1 (tp_room (tp_of S t (R.1 t) 0)) t := rfl
    unfold fX8_begin_b200
    rw [hf1, hf2, tp_0]
    clear hf1 hf2 e2 e3 h67 hstart hRdef
    generalize tp_room (tp_of S t (R.1 t) 0) = rm at *
    by_cases e : rm = 2
    · rw [if_pos (show tp_rI rm < nI 0 by rw [e]; decide), if_pos e, if_pos e]
      exact ⟨J3, rfl, fun _ _ _ => rfl, fun r hr => by rw [hr17, hr18]; exact (hG r hr).2.2.2.2.1⟩
    · have hri : tp_rI rm = nI rm := by unfold tp_rI; rw [if_neg e]
      rw [hri, if_neg (show ¬ nI rm < nI 0 from nI_neg (by omega)), if_neg e, if_neg e]
      rw [q_P21 hm, Option.bind_some, nI_add, q_w17 hm (by omega), Option.bind_some, q_P22 hm, Option.bind_some, q_w18 hm (by omega), Option.bind_some]
      refine ⟨_, rfl, fun c c1 c2 => by rw [tw_up_a c2, tw_up_a c1], fun r hr => ?_⟩
      by_cases e4 : r = rm
      · rw [e4, tw_up_a (by omega), tw_up_at, tw_up_at]
        unfold tp_u
        rw [if_pos rfl, if_pos rfl]
        exact ⟨rfl, fun _ => rfl⟩
      · rw [tw_up_a (by omega), tw_up_k e4, tw_up_k e4, tw_up_a (by omega), hr17, hr18]
        unfold tp_u
        rw [if_neg e4, if_neg e4]
        exact (hG r hr).2.2.2.2.1
  obtain ⟨J4, e4, b1, b2⟩ := hBm
  -- what it does
  have hJ4c : ∀ c, c ≠ m + 8 → c ≠ m + 9 → c ≠ m + 10 → c ≠ m + 11 → c ≠ m + 12 → c ≠ m + 15 → c ≠ m + 16 → c ≠ m + 17 → c ≠ m + 18 → J4 c = I c := fun c c0 c1 c2 c3 c4 c5 c6 c7 c8 => by rw [b1 c c7 c8, a1 c c0]; exact hJ2c c c1 c2 c3 c4 c5 c6
  have hS4 : pMS J4 (m + 1) 0 S := hS.keep (hJ4c _ (by omega) (by omega) (by omega) (by omega) (by omega) (by omega) (by omega) (by omega) (by omega))
  have hv2 : ∀ j, j < 12 → (tp_pn (S.2.2.1 t) (S.2.2.2 t) (R.1 t)).2 j < 1000 := by
    obtain ⟨o1, o2, o3⟩ := hok.2.2.2 t ht
    exact (tp_pn_ok o1 o2 o3 (R.1 t) (fun i hi => (hK.in ht (show i < K t by omega)).2)).2
  have hr7 : J4 (m + 7) = I (m + 7) := hJ4c _ (by omega) (by omega) (by omega) (by omega) (by omega) (by omega) (by omega) (by omega) (by omega)
  obtain ⟨J5, e5, d1, d2, d3⟩ := q_does (n := n) (k := tp_od S t (R.1 t)) (v := (tp_pn (S.2.2.1 t) (S.2.2.2 t) (R.1 t)).2) hm hok hS4 ht hin (fun j hj => by rw [hr7]; exact g6 j hj) hv2
  have hnext : (tp_step (S.2.2.1 t) (tp_pn (S.2.2.1 t) (S.2.2.2 t) (R.1 t)).2 (tp_od S t (R.1 t))) = tp_pn (S.2.2.1 t) (S.2.2.2 t) (R.1 t + 1) := rfl
  rw [hnext] at e5 d1
  have h224 : fX8_begin_b224 (n, sh, P, J4) m (nI t) (nI (tp_od S t (R.1 t))) = some (n, sh, P, tw_up (tw_up J5 (m + 14) t (nI (tp_od S t (R.1 t + 1)))) (m + 13) t (nI (R.1 t + 1))) := by
    unfold fX8_begin_b224
    have h13 : tw_up J5 (m + 14) t (nI (tp_od S t (R.1 t + 1))) (m + 13) t = nI (R.1 t) := by
      rw [tw_up_a (by omega), d3 _ (by omega), hJ4c _ (by omega) (by omega) (by omega) (by omega) (by omega) (by omega) (by omega) (by omega) (by omega)]; exact g1
    rw [q_P18 hm, Option.bind_some, e5, Option.bind_some]
    dsimp only
    rw [show (tp_pn (S.2.2.1 t) (S.2.2.2 t) (R.1 t + 1)).1 = tp_od S t (R.1 t + 1) from rfl, q_w14 hm ht, Option.bind_some, q_P17 hm, Option.bind_some, q_a13 hm ht, Option.bind_some, h13, tp_1, nI_add, q_w13 hm ht, Option.bind_some]
  refine ⟨_, by rw [hstart, h67, e3, e4, h224], ?_, fun c hc => ?_⟩
  · generalize hJ6 : tw_up (tw_up J5 (m + 14) t (nI (tp_od S t (R.1 t + 1)))) (m + 13) t (nI (R.1 t + 1)) = J6
    have f6 : ∀ c, c ≠ m + 13 → c ≠ m + 14 → c ≠ m + 7 → J6 c = J4 c := fun c c1 c2 c3 => by rw [← hJ6, tw_up_a c1, tw_up_a c2, d3 c c3]
    have r8 : J6 (m + 8) = J3 (m + 8) := by rw [f6 _ (by omega) (by omega) (by omega), b1 _ (by omega) (by omega)]
    have r9 : J6 (m + 9) = tw_up I (m + 9) (100 * t + R.1 t) (nI tick) (m + 9) := by
      rw [f6 _ (by omega) (by omega) (by omega), b1 _ (by omega) (by omega), a1 _ (by omega), l5 _ (by omega) (by omega) (by omega), ← hJ, tw_up_a (by omega), tw_up_a (by omega), tw_up_a (by omega)]
    have r10 : J6 (m + 10) = tw_up I (m + 10) (100 * t + R.1 t) (nI (tp_od S t (R.1 t))) (m + 10) := by
      rw [f6 _ (by omega) (by omega) (by omega), b1 _ (by omega) (by omega), a1 _ (by omega), l5 _ (by omega) (by omega) (by omega), ← hJ, tw_up_a (by omega), tw_up_a (by omega)]
      funext j; unfold tw_up; rw [if_neg (show ¬ (m + 10 = m + 9 ∧ j = 100 * t + R.1 t) from fun z => by omega)]
    have r11 : J6 (m + 11) = tw_up I (m + 11) (100 * t + R.1 t) (nI (tick + du)) (m + 11) := by
      rw [f6 _ (by omega) (by omega) (by omega), b1 _ (by omega) (by omega), a1 _ (by omega), l5 _ (by omega) (by omega) (by omega), ← hJ, tw_up_a (by omega)]
      funext j; unfold tw_up; rw [if_neg (show ¬ (m + 11 = m + 9 ∧ j = 100 * t + R.1 t) from fun z => by omega), if_neg (show ¬ (m + 11 = m + 10 ∧ j = 100 * t + R.1 t) from fun z => by omega)]
    have r12 : J6 (m + 12) = J2 (m + 12) := by rw [f6 _ (by omega) (by omega) (by omega), b1 _ (by omega) (by omega), a1 _ (by omega)]
    have r12J : ∀ j, j ≠ 100 * t + R.1 t → J2 (m + 12) j = I (m + 12) j := fun j hj => by
      rw [l4 j hj, ← hJ, tw_up_k hj, tw_up_a (by omega), tw_up_a (by omega), tw_up_a (by omega)]
    have r15 : J6 (m + 15) = J2 (m + 15) := by rw [f6 _ (by omega) (by omega) (by omega), b1 _ (by omega) (by omega), a1 _ (by omega)]
    have r16 : J6 (m + 16) = J2 (m + 16) := by rw [f6 _ (by omega) (by omega) (by omega), b1 _ (by omega) (by omega), a1 _ (by omega)]
    have r17 : J6 (m + 17) = J4 (m + 17) := f6 _ (by omega) (by omega) (by omega)
    have r18 : J6 (m + 18) = J4 (m + 18) := f6 _ (by omega) (by omega) (by omega)
    have r7 : J6 (m + 7) = J5 (m + 7) := by rw [← hJ6, tw_up_a (by omega), tw_up_a (by omega)]
    have r13 : ∀ j, J6 (m + 13) j = if j = t then nI (R.1 t + 1) else I (m + 13) j := fun j => by
      rw [← hJ6]
      by_cases e : j = t
      · rw [if_pos e, e, tw_up_at]
      · rw [if_neg e, tw_up_k e, tw_up_a (by omega), d3 _ (by omega), hJ4c _ (by omega) (by omega) (by omega) (by omega) (by omega) (by omega) (by omega) (by omega) (by omega)]
    have r14 : ∀ j, J6 (m + 14) j = if j = t then nI (tp_od S t (R.1 t + 1)) else I (m + 14) j := fun j => by
      rw [← hJ6, tw_up_a (by omega)]
      by_cases e : j = t
      · rw [if_pos e, e, tw_up_at]
      · rw [if_neg e, tw_up_k e, d3 _ (by omega), hJ4c _ (by omega) (by omega) (by omega) (by omega) (by omega) (by omega) (by omega) (by omega) (by omega)]
    intro t' ht'
    obtain ⟨y1, y2, y3, y4, y5, y6, py, y7, y8⟩ := hG t' ht'
    have hRt' := (hB t' ht').1
    have hKt' := (hK t' ht').1
    have n1 : (tp_start S R t tick).1 t' = if t' = t then R.1 t + 1 else R.1 t' := rfl
    have n2 : ∀ j, (tp_start S R t tick).2.1 t' j = if t' = t ∧ j = R.1 t then tick else R.2.1 t' j := fun _ => rfl
    have n3 : ∀ j, (tp_start S R t tick).2.2.1 t' j = if t' = t ∧ j = R.1 t then tick + du else R.2.2.1 t' j := fun j => by rw [← hdv]; rfl
    have n4 : (tp_start S R t tick).2.2.2.1 = R.2.2.2.1 := rfl
    by_cases et : t' = t
    · subst et
      rw [if_pos rfl] at n1
      refine ⟨by rw [r13, if_pos rfl, n1], ⟨fun z => absurd z hab, fun _ => by rw [r14, if_pos rfl, n1]⟩, fun j hj => ?_, fun r hr => by rw [r8]; exact a2 t' ht r hr, by rw [r17, r18]; exact b2 t' ht, fun j hj => by rw [r7, n1]; exact d1 j hj, fun _ => 0, fun k h1 h2 => ?_, ?_⟩
      · rw [n1] at hj
        rw [n2 j, n2 (j - 1), n3 j, r9, r10, r11, r12]
        by_cases ej : j = R.1 t'
        · subst ej
          rw [if_pos ⟨rfl, rfl⟩, if_pos ⟨rfl, rfl⟩, tw_up_at, tw_up_at, tw_up_at, l3]
          refine ⟨rfl, rfl, rfl, ?_⟩
          rw [if_pos ho, htau] at g8
          rw [g8]
          unfold tp_since
          by_cases e0 : R.1 t' = 0
          · rw [if_pos e0, if_pos e0]
          · rw [if_neg e0, if_neg e0, if_neg (fun z => by omega)]
        · rw [if_neg (fun z => ej z.2), if_neg (fun z => ej z.2), tw_up_k (by omega), tw_up_k (by omega), tw_up_k (by omega), r12J _ (by omega)]
          by_cases e0 : j = 0
          · have := y3 j (by omega)
            rw [if_pos e0] at this ⊢
            exact this
          · have := y3 j (by omega)
            rw [if_neg e0] at this ⊢
            rw [if_neg (fun z => by omega)]
            exact this
      · rw [n4, r15, r16]
        obtain ⟨z1, z2⟩ := l1 k h1 h2
        obtain ⟨w1, -, -⟩ := g7 k h1 h2
        refine ⟨Nat.zero_le _, ?_, z2⟩
        rw [z1]
        congr 1
        dsimp only
        omega
      · rw [n1]
        show 0 = if R.1 t' + 1 < K t' then (if t' = t' then tick + 1 else tau t') - tp_since (tp_start S R t' tick) t' else 0
        have : tp_since (tp_start S R t' tick) t' = tick + 1 := by
          unfold tp_since
          rw [n1, if_neg (by omega), n2, if_pos ⟨rfl, by omega⟩]
        rw [this, if_pos rfl]
        split <;> omega
    · rw [if_neg et] at n1
      have hn2 : ∀ j, (tp_start S R t tick).2.1 t' j = R.2.1 t' j := fun j => by rw [n2, if_neg (fun z => et z.1)]
      have hn3 : ∀ j, (tp_start S R t tick).2.2.1 t' j = R.2.2.1 t' j := fun j => by rw [n3, if_neg (fun z => et z.1)]
      refine ⟨by rw [r13, if_neg et, n1]; exact y1, ⟨fun z => by rw [r14, if_neg et]; exact y2.1 z, fun z => by rw [r14, if_neg et, n1]; exact y2.2 z⟩, fun j hj => ?_, fun r hr => by rw [r8]; exact a2 t' ht' r hr, by rw [r17, r18]; exact b2 t' ht', fun j hj => by rw [r7, n1, d2 _ (by omega), hr7]; exact y6 j hj, py, fun k h1 h2 => ?_, ?_⟩
      · rw [n1] at hj
        rw [hn2 j, hn2 (j - 1), hn3 j, r9, r10, r11, r12, tw_up_k (by omega), tw_up_k (by omega), tw_up_k (by omega), r12J _ (by omega)]
        exact y3 j hj
      · obtain ⟨z1, z2⟩ := l2 (5 * t' + k) (by omega)
        rw [n4, r15, r16, z1, z2, hJc _ (by omega) (by omega) (by omega) (by omega), hJc _ (by omega) (by omega) (by omega) (by omega)]
        exact y7 k h1 h2
      · rw [n1]
        show _ = if R.1 t' < K t' then (if t' = t then tick + 1 else tau t') - tp_since (tp_start S R t tick) t' else 0
        have : tp_since (tp_start S R t tick) t' = tp_since R t' := by
          unfold tp_since
          rw [n1, hn2]
        rw [this, if_neg et]
        exact y8
  · rw [tw_up_a (by omega), tw_up_a (by omega), d3 _ (by omega)]
    exact hJ4c _ (by omega) (by omega) (by omega) (by omega) (by omega) (by omega) (by omega) (by omega) (by omega)
end TPX
