/-! ofStep, at, count. -/
def pMono (R : tp_R) : Prop := ∀ t j, j + 1 < R.1 t → R.2.1 t j < R.2.1 t (j + 1)
theorem pMono.tick {S : tp_S} {K : Nat → Nat} {R : tp_R} {wo turns tick : Nat} (h : pMono R) (hB : pRB K R tick) : pMono (tp_tick S K wo turns tick R) := by
  unfold tp_tick
  dsimp only
  have hs := tp_starter_lt R turns tick (fun t => tp_hind S K R wo t tick)
  generalize tp_starter R turns tick (fun t => tp_hind S K R wo t tick) = st at hs
  obtain ⟨w, ew, -⟩ := tp_wait2 (K := K) R (fun t => tp_hind S K R wo t tick) st
  rw [ew]
  split
  · exact h
  · intro t j hj
    unfold tp_start tp_u at hj
    dsimp only at hj
    show tw_up R.2.1 st (R.1 st) tick t j < tw_up R.2.1 st (R.1 st) tick t (j + 1)
    by_cases e : t = st
    · rw [if_pos e] at hj
      rw [e, tw_up_k (by omega)]
      by_cases e2 : j + 1 = R.1 st
      · rw [e2, tw_up_at]
        exact ((hB st (by omega)).2.2.1 j (by omega)).1
      · rw [tw_up_k e2]
        exact h st j (by omega)
    · rw [if_neg e] at hj
      rw [tw_up_a e]
      exact h t j hj
theorem pMono.sched {S : tp_S} {K : Nat → Nat} {wo turns : Nat} (hok : pSok S) : ∀ (d tick : Nat) (R : tp_R), pMono R → pRB K R tick → pMono (tp_sched S K wo turns d tick R)
  | 0, _, _, h, _ => h
  | d + 1, tick, R, h, hB => by
    unfold tp_sched
    split
    · exact pMono.sched hok d (tick + 1) _ (h.tick hB) (hB.tick hok)
    · exact h
theorem pMono.run {S : tp_S} {K : Nat → Nat} {wo turns : Nat} (hok : pSok S) : pMono (tp_run S K wo turns) := pMono.sched hok 4096 0 tp_R0 (fun t j hj => absurd hj (Nat.not_lt_zero _)) pRB_0
section TPAT
variable {n : Nat} {sh : tw_Sh} {P : Nat → Nat → Option Nat} {I : Nat → Nat → Int32} {m t k ab tk w : Nat} {S : tp_S} {K : Nat → Nat} {R : tp_R} {tau : Nat → Nat} {x : Int32}
def tp_ap (S : tp_S) (R : tp_R) (x : Int32) (w t j : Nat) : Prop := (w = 0 → nI (R.2.1 t j) = x) ∧ (w ≠ 0 → tp_in S R x (w - 1) t j)
theorem q_atBody (k23 : (tw_St → Nat → Int32 → Int32 → Int32 → Option (Int32 × tw_St))) (k34 : (tw_St → Nat → Int32 → Int32 → Int32 → Int32 → Option (Int32 × tw_St))) (hm : pMo sh P m) (hok : pSok S) (hS : pMS I (m + 1) 0 S) (hK : pMK S K ab) (hB : pRB K R tk) (hk : tk ≤ 4096) (hG : pMG I m S K R ab tau) (ht : t < 2) (hw : w < 3) {j : Nat} (hj : j < R.1 t) :
    (tp_ap S R x w t j → fX8_at_h34 k23 k34 (n, sh, P, I) m x (nI w) (nI t) (nI (100 * t + j)) = some (nI t, (n, sh, P, I))) ∧ (¬ tp_ap S R x w t j → fX8_at_h34 k23 k34 (n, sh, P, I) m x (nI w) (nI t) (nI (100 * t + j)) = k34 (n, sh, P, I) m x (nI w) (nI t) (nI (100 * t + (j + 1)))) := by
  obtain ⟨g1, -, g3, -⟩ := hG t ht
  obtain ⟨a1, a2, a3, -⟩ := g3 j hj
  have hRK := (hB t ht).1
  have hK100 := (hK t ht).1
  have hin := hK.in ht (show j < K t by omega)
  have hz : ∀ t, t < 2 → S.2.1 t ≤ 12 := fun t ht => (hok.2.2.2 t ht).1
  have hodl := hz t ht
  have hb126 : fX8_at_b126 k23 k34 (n, sh, P, I) m x (nI w) (nI t) (nI (100 * t + j)) = k34 (n, sh, P, I) m x (nI w) (nI t) (nI (100 * t + (j + 1))) := by
    unfold fX8_at_b126
    rw [tp_1, nI_add, Nat.add_assoc]
  have hw0 : (nI w = 0) ↔ w = 0 := ⟨fun z => (nI_eq (by omega) (by decide)).mp (z.trans tp_0), fun z => by rw [z]; rfl⟩
  have hb0 : w = 0 → ∀ z, fX8_at_b99 k23 k34 (n, sh, P, I) m x (nI w) (nI t) (nI (100 * t + j)) z = if nI (R.2.1 t j) = x then some (nI t, (n, sh, P, I)) else k34 (n, sh, P, I) m x (nI w) (nI t) (nI (100 * t + (j + 1))) := by
    intro e z
    unfold fX8_at_b99 fX8_at_b116
    rw [if_pos (hw0.mpr e), q_P13 hm, Option.bind_some, q_a9 hm (by omega), Option.bind_some, a1, hb126]
  have hb1 : w ≠ 0 → fX8_at_b99 k23 k34 (n, sh, P, I) m x (nI w) (nI t) (nI (100 * t + j)) 1 = some (nI t, (n, sh, P, I)) := by
    intro e
    unfold fX8_at_b99
    rw [if_neg (fun z => e (hw0.mp z)), if_neg (show ¬ (1 : Int32) = 0 by decide)]
  have hb2 : w ≠ 0 → fX8_at_b98 k23 k34 (n, sh, P, I) m x (nI w) (nI t) (nI (100 * t + j)) = k34 (n, sh, P, I) m x (nI w) (nI t) (nI (100 * t + (j + 1))) := by
    intro e
    unfold fX8_at_b98 fX8_at_b99
    rw [if_neg (fun z => e (hw0.mp z)), if_pos rfl, hb126]
  have hall : fX8_at_h34 k23 k34 (n, sh, P, I) m x (nI w) (nI t) (nI (100 * t + j)) = if x < nI (R.2.1 t j) then fX8_at_b98 k23 k34 (n, sh, P, I) m x (nI w) (nI t) (nI (100 * t + j)) else if nI (R.2.2.1 t j) ≤ x then fX8_at_b98 k23 k34 (n, sh, P, I) m x (nI w) (nI t) (nI (100 * t + j)) else if tp_rI (tp_room (tp_of S t j 0)) = nI w - 1 then fX8_at_b99 k23 k34 (n, sh, P, I) m x (nI w) (nI t) (nI (100 * t + j)) 1 else fX8_at_b98 k23 k34 (n, sh, P, I) m x (nI w) (nI t) (nI (100 * t + j)) := by
    unfold fX8_at_h34
    rw [q_P17 hm, Option.bind_some, q_a13 hm ht, Option.bind_some, g1, show (100 : Int32) = nI 100 from rfl, pk_mul, nI_add, if_neg (show ¬ nI (100 * t + R.1 t) ≤ nI (100 * t + j) from nI_ge (by omega) (by omega)), q_P13 hm, Option.bind_some, q_a9 hm (by omega), Option.bind_some, a1, q_P15 hm, Option.bind_some, q_a11 hm (by omega), Option.bind_some, a3, q_P14 hm, Option.bind_some, q_a10 hm (by omega), Option.bind_some, a2, tp_0, q_of hm hS hz ht hin.2 (by decide), Option.bind_some, q_roomOf, Option.bind_some]
    rfl
  rw [hall]
  unfold tp_ap tp_in
  by_cases e : w = 0
  · have hb98 : fX8_at_b98 k23 k34 (n, sh, P, I) m x (nI w) (nI t) (nI (100 * t + j)) = if nI (R.2.1 t j) = x then some (nI t, (n, sh, P, I)) else k34 (n, sh, P, I) m x (nI w) (nI t) (nI (100 * t + (j + 1))) := hb0 e 0
    rw [hb98, hb0 e 1, ite_self, ite_self, ite_self]
    refine ⟨fun z => if_pos (z.1 e), fun z => if_neg (fun y => z ⟨fun _ => y, fun y => absurd e y⟩)⟩
  · rw [hb1 e, hb2 e, tp_1, pk_sub (show 1 ≤ w by omega), show nI (w - 1) = tp_rI (w - 1) by unfold tp_rI; rw [if_neg (by omega)]]
    have hr := tp_rI_eq (tp_room_lt (tp_of S t j 0)) (show w - 1 < 3 by omega)
    by_cases e1 : x < nI (R.2.1 t j)
    · rw [if_pos e1]
      refine ⟨fun z => ?_, fun _ => rfl⟩
      exact absurd (z.2 e).1 (Int32.not_le.mpr e1)
    · by_cases e2 : nI (R.2.2.1 t j) ≤ x
      · rw [if_neg e1, if_pos e2]
        exact ⟨fun z => absurd (z.2 e).2.1 (Int32.not_lt.mpr e2), fun _ => rfl⟩
      · by_cases e3 : tp_room (tp_of S t j 0) = w - 1
        · rw [if_neg e1, if_neg e2, if_pos (hr.mpr e3)]
          exact ⟨fun _ => rfl, fun z => absurd ⟨fun y => absurd y e, fun _ => ⟨Int32.not_lt.mp e1, Int32.not_le.mp e2, e3⟩⟩ z⟩
        · rw [if_neg e1, if_neg e2, if_neg (fun z => e3 (hr.mp z))]
          exact ⟨fun z => absurd (z.2 e).2.2 e3, fun _ => rfl⟩
theorem q_atInner (k23 : (tw_St → Nat → Int32 → Int32 → Int32 → Option (Int32 × tw_St))) (hm : pMo sh P m) (hok : pSok S) (hS : pMS I (m + 1) 0 S) (hK : pMK S K ab) (hB : pRB K R tk) (hk : tk ≤ 4096) (hG : pMG I m S K R ab tau) (ht : t < 2) (hw : w < 3) :
    (∃ j, j < R.1 t ∧ tp_ap S R x w t j ∧ (∀ i, i < j → ¬ tp_ap S R x w t i) ∧ fX8_at_l34 k23 tw_F (n, sh, P, I) m x (nI w) (nI t) (nI (100 * t + 0)) = some (nI t, (n, sh, P, I))) ∨ ((∀ j, j < R.1 t → ¬ tp_ap S R x w t j) ∧ fX8_at_l34 k23 tw_F (n, sh, P, I) m x (nI w) (nI t) (nI (100 * t + 0)) = fX8_at_b132 k23 (n, sh, P, I) m x (nI w) (nI t)) := by
  have hRK := (hB t ht).1
  have hK100 := (hK t ht).1
  exact tp_it (S := Nat) (fun _ _ _ _ _ _ => none) (fX8_at_h34 k23) (fun f s => f (n, sh, P, I) m x (nI w) (nI t) (nI (100 * t + s)))
    (fun s => s ≤ R.1 t ∧ ∀ i, i < s → ¬ tp_ap S R x w t i) (fun s => R.1 t - s)
    (fun _ r => (∃ j, j < R.1 t ∧ tp_ap S R x w t j ∧ (∀ i, i < j → ¬ tp_ap S R x w t i) ∧ r = some (nI t, (n, sh, P, I))) ∨ ((∀ j, j < R.1 t → ¬ tp_ap S R x w t j) ∧ r = fX8_at_b132 k23 (n, sh, P, I) m x (nI w) (nI t)))
    (by
      intro f j ⟨i1, i2⟩ ih
      by_cases e : j = R.1 t
      · refine Or.inr ⟨fun i hi => i2 i (by omega), ?_⟩
        unfold fX8_at_h34
        rw [q_P17 hm, Option.bind_some, q_a13 hm ht, Option.bind_some, (hG t ht).1, show (100 : Int32) = nI 100 from rfl, pk_mul, nI_add, if_pos (show nI (100 * t + R.1 t) ≤ nI (100 * t + j) from nI_le (by omega) (by omega))]
      · obtain ⟨b1, b2⟩ := q_atBody (n := n) (x := x) k23 f hm hok hS hK hB hk hG ht hw (show j < R.1 t by omega)
        rcases Classical.em (tp_ap S R x w t j) with c | c
        · exact Or.inl ⟨j, by omega, c, i2, b1 c⟩
        · rw [b2 c]
          refine ih (j + 1) ⟨by omega, fun i hi => ?_⟩ (by omega)
          by_cases e2 : i = j
          · rw [e2]; exact c
          · exact i2 i (by omega)) tw_F 0 ⟨Nat.zero_le _, fun i hi => absurd hi (Nat.not_lt_zero i)⟩ (tw_F_big (by omega))
theorem q_atOuter (q : Nat) (hm : pMo sh P m) (hok : pSok S) (hS : pMS I (m + 1) 0 S) (hK : pMK S K ab) (hB : pRB K R tk) (hk : tk ≤ 4096) (hG : pMG I m S K R ab tau) (ht : t < 2) (hw : w < 3) :
    (∃ j, j < R.1 t ∧ tp_ap S R x w t j ∧ (∀ i, i < j → ¬ tp_ap S R x w t i) ∧ fX8_at_l23 (q + 1) (n, sh, P, I) m x (nI w) (nI t) = some (nI t, (n, sh, P, I))) ∨ ((∀ j, j < R.1 t → ¬ tp_ap S R x w t j) ∧ fX8_at_l23 (q + 1) (n, sh, P, I) m x (nI w) (nI t) = fX8_at_l23 q (n, sh, P, I) m x (nI w) (nI (t + 1))) := by
  have h23 : fX8_at_l23 (q + 1) (n, sh, P, I) m x (nI w) (nI t) = fX8_at_l34 (fX8_at_l23 q) tw_F (n, sh, P, I) m x (nI w) (nI t) (nI (100 * t + 0)) := by
    show fX8_at_h23 (fX8_at_l23 q) (n, sh, P, I) m x (nI w) (nI t) = _
    unfold fX8_at_h23
    rw [if_neg (show ¬ (2 : Int32) ≤ nI t from nI_ge (show t < 2 by omega) (by decide)), show (100 : Int32) = nI 100 from rfl, pk_mul]
    rfl
  rw [h23]
  rcases q_atInner (n := n) (x := x) (fX8_at_l23 q) hm hok hS hK hB hk hG ht hw with h | ⟨h1, h2⟩
  · exact Or.inl h
  · refine Or.inr ⟨h1, ?_⟩
    rw [h2]
    unfold fX8_at_b132
    rw [tp_1, nI_add]
theorem q_atEnd (q : Nat) : fX8_at_l23 (q + 1) (n, sh, P, I) m x (nI w) (nI (1 + 1)) = some (-nI 6, (n, sh, P, I)) := by
  show fX8_at_h23 (fX8_at_l23 q) (n, sh, P, I) m x (nI w) (nI (1 + 1)) = _
  unfold fX8_at_h23
  rw [if_pos (show (2 : Int32) ≤ nI (1 + 1) from nI_le (show 2 ≤ 1 + 1 by omega) (by decide))]
  rfl
theorem q_atLoop (hm : pMo sh P m) (hok : pSok S) (hS : pMS I (m + 1) 0 S) (hK : pMK S K ab) (hB : pRB K R tk) (hk : tk ≤ 4096) (hG : pMG I m S K R ab tau) (hw : w < 3) :
    ∃ y, fX8_at_l23 tw_F (n, sh, P, I) m x (nI w) (nI 0) = some (y, (n, sh, P, I)) ∧ tp_find R.1 (tp_ap S R x w) y := by
  rw [show tw_F = 99997 + 1 + 1 + 1 from rfl]
  generalize 99997 = q
  rcases q_atOuter (n := n) (x := x) (q + 1 + 1) hm hok hS hK hB hk hG (show 0 < 2 by decide) hw with ⟨j, h1, h2, h3, h4⟩ | ⟨h1, h2⟩
  · exact ⟨nI 0, h4, Or.inl ⟨0, j, by decide, h1, h2, h3, fun z => absurd z (by decide), rfl⟩⟩
  · rw [h2]
    rcases q_atOuter (n := n) (x := x) (q + 1) hm hok hS hK hB hk hG (show 0 + 1 < 2 by decide) hw with ⟨j, g1, g2, g3, g4⟩ | ⟨g1, g2⟩
    · exact ⟨nI (0 + 1), g4, Or.inl ⟨0 + 1, j, by decide, g1, g2, g3, fun _ => h1, rfl⟩⟩
    · rw [g2]
      refine ⟨-nI 6, q_atEnd q, Or.inr ⟨fun t j ht hj => ?_, rfl⟩⟩
      rcases (show t = 0 ∨ t = 0 + 1 by omega) with rfl | rfl
      · exact h1 j hj
      · exact g1 j hj
theorem tp_find_iff {k : Nat → Nat} {p q : Nat → Nat → Prop} {y : Int32} (h : tp_find k p y) (e : ∀ t j, p t j ↔ q t j) : tp_find k q y := by
  have : p = q := funext fun t => funext fun j => propext (e t j)
  rw [← this]; exact h
end TPAT
section TPAU
variable {b : Nat} {σ : tw_St}
theorem o_ofStep (h : pV b σ) (x1 x2 x3 : Int32) : ∃ r σ2, fX7_ofStep σ b x1 x2 x3 = some r ∧ fX8_ofStep σ (b + 160) x1 x2 x3 = some (r, σ2) ∧ pV b σ2 := by
  obtain ⟨n, sh, P, I⟩ := σ
  obtain ⟨C, sw, hok, hl, hm, hI, hM⟩ := h
  dsimp only at hl hm hI hM
  have hru := hl.2.2.1
  obtain ⟨I', e, hD, hM', f⟩ := q_runC (n := n) hm hok hM
  have hv' := pV.same (n := n) hok hl hm (hI.kept (fun c hc => f c (by omega))) hM'
  have hmono : pMono (tp_res C.1 2) := pMono.run hok.1
  have hK : pMK C.1 (tp_Kf C.1 2) 2 := fun t ht => tp_Kf_K ht
  have hKt : ∀ t, t < 2 → tp_Kf C.1 2 t ≤ 100 := fun t ht => (hK t ht).1
  obtain ⟨tk, hG, hB, hk, hE, -⟩ := hD
  obtain ⟨tk', hF, hRI, hB', hk'⟩ := hI.2.1
  unfold fX7_ofStep fX8_ofStep
  rw [c_is hl, Option.bind_some, q_is hm, Option.bind_some, e, Option.bind_some]
  dsimp only
  rcases tp_th x1 with ⟨t, ht, rfl⟩ | hno
  · obtain ⟨g1, -, g3, -⟩ := hG t ht
    obtain ⟨j1, j2, j3, -⟩ := hRI t ht
    have hRK := (hB t ht).1
    have hK100 := hKt t ht
    rw [c_thread _ ht, q_thread _ ht, Option.bind_some, Option.bind_some, if_neg (show ¬ nI 1 = 0 by decide), if_neg (show ¬ nI 1 = 0 by decide), q_P17 hm, Option.bind_some, q_a13 hm ht, Option.bind_some, g1, tp_0, tp_1]
    rcases tp_x x2 ((tp_res C.1 2).1 t) with hneg | ⟨j, hj, hj2, rfl⟩ | ⟨j, hj, hj2, rfl⟩
    · rw [if_pos (show x2 < nI 0 from hneg), q_in_neg _ hneg (by decide), Option.bind_some, if_pos rfl]
      exact ⟨_, _, rfl, rfl, hv'⟩
    · obtain ⟨a1, a2, a3, a4⟩ := g3 j hj
      obtain ⟨y1, y2⟩ := j3 j hj
      rw [if_neg (show ¬ nI j < nI 0 from nI_neg hj2), c_P1 hl, Option.bind_some, r_P1 hru, Option.bind_some, r_a8 hru ht, Option.bind_some, j1, if_pos (show nI j < nI ((tp_res C.1 2).1 t) from nI_lt hj (by omega)), q_inz' _ hj2 (by omega), if_pos hj]
      simp only [Option.bind_some]
      rw [if_neg (show ¬ nI 1 = nI 0 by decide)]
      by_cases d0 : x3 = nI 0
      · rw [if_pos d0, if_pos d0, r_P3 hru, Option.bind_some, r_p10 hru ht, Option.bind_some, r_r11 hru ht (by omega), Option.bind_some, y1, q_P13 hm, Option.bind_some, show (100 : Int32) = nI 100 from rfl, pk_mul, nI_add, q_a9 hm (by omega), Option.bind_some, a1]
        exact ⟨_, _, rfl, rfl, hv'⟩
      · rw [if_neg d0, if_neg d0]
        by_cases d1 : x3 = nI 1
        · rw [if_pos d1, if_pos d1, r_P0 hru, Option.bind_some, r_p1 hru ht, Option.bind_some, r_od hru ht, Option.bind_some, r_odj hru ht (by omega), Option.bind_some, (hF t ht).2.2.2.1 j (by omega), q_P14 hm, Option.bind_some, show (100 : Int32) = nI 100 from rfl, pk_mul, nI_add, q_a10 hm (by omega), Option.bind_some, a2]
          exact ⟨_, _, rfl, rfl, hv'⟩
        · rw [if_neg d1, if_neg d1]
          by_cases d2 : x3 = 2
          · rw [if_pos d2, if_pos d2, r_P4 hru, Option.bind_some, r_p13 hru ht, Option.bind_some, r_r14 hru ht (by omega), Option.bind_some, y2, q_P15 hm, Option.bind_some, show (100 : Int32) = nI 100 from rfl, pk_mul, nI_add, q_a11 hm (by omega), Option.bind_some, a3]
            exact ⟨_, _, rfl, rfl, hv'⟩
          · rw [if_neg d2, if_neg d2]
            by_cases d3 : x3 = 3
            · have hsub : nI ((tp_res C.1 2).2.1 t j) - nI (if j = 0 then 0 else (tp_res C.1 2).2.1 t (j - 1) + 1) = nI ((tp_res C.1 2).2.1 t j - (if j = 0 then 0 else (tp_res C.1 2).2.1 t (j - 1) + 1)) := by
                refine pk_sub ?_
                by_cases ej : j = 0
                · rw [if_pos ej]; exact Nat.zero_le _
                · rw [if_neg ej]
                  have := hmono t (j - 1) (by omega)
                  rw [show j - 1 + 1 = j by omega] at this
                  exact this
              rw [if_pos d3, if_pos d3, p_waitAhead hru hRI hB' hKt ht hj, Option.bind_some, q_P16 hm, Option.bind_some, show (100 : Int32) = nI 100 from rfl, pk_mul, nI_add, q_a12 hm (by omega), Option.bind_some, a4, hsub]
              exact ⟨_, _, rfl, rfl, hv'⟩
            · rw [if_neg d3, if_neg d3]
              exact ⟨_, _, rfl, rfl, hv'⟩
    · rw [if_neg (show ¬ nI j < nI 0 from nI_neg hj2), c_P1 hl, Option.bind_some, r_P1 hru, Option.bind_some, r_a8 hru ht, Option.bind_some, j1, if_neg (show ¬ nI j < nI ((tp_res C.1 2).1 t) from nI_nlt hj hj2), q_inz' _ hj2 (by omega), if_neg (by omega), Option.bind_some, if_pos rfl]
      exact ⟨_, _, rfl, rfl, hv'⟩
  · rw [c_noThread _ hno, q_noThread _ hno, Option.bind_some, Option.bind_some, if_pos (show nI 0 = 0 from rfl), if_pos (show nI 0 = 0 from rfl)]
    exact ⟨_, _, rfl, rfl, hv'⟩
theorem o_at (h : pV b σ) (x1 x2 : Int32) : ∃ r σ2, fX7_at σ b x1 x2 = some r ∧ fX8_at σ (b + 160) x1 x2 = some (r, σ2) ∧ pV b σ2 := by
  obtain ⟨n, sh, P, I⟩ := σ
  obtain ⟨C, sw, hok, hl, hm, hI, hM⟩ := h
  dsimp only at hl hm hI hM
  have hv := pV.same (n := n) hok hl hm hI hM
  have hru := hl.2.2.1
  have hst := hl.2.1
  have hK : pMK C.1 (tp_Kf C.1 2) 2 := fun t ht => tp_Kf_K ht
  have hKt : ∀ t, t < 2 → tp_Kf C.1 2 t ≤ 100 := fun t ht => (hK t ht).1
  by_cases e0 : x1 < 0
  · refine ⟨-2, (n, sh, P, I), ?_, ?_, hv⟩
    · unfold fX7_at
      rw [c_is hl, Option.bind_some, if_neg (Int32.not_le.mpr e0)]
    · unfold fX8_at
      rw [q_is hm, Option.bind_some, if_pos e0]
  · have e0' : 0 ≤ x1 := Int32.not_lt.mp e0
    obtain ⟨tk', hF, hRI, hB', hk'⟩ := hI.2.1
    have hq : ∀ w, w < 3 → ∃ y σ2, fX8_at (n, sh, P, I) (b + 160) x1 (nI w) = some (y, σ2) ∧ tp_find (tp_res C.1 2).1 (tp_ap C.1 (tp_res C.1 2) x1 w) y ∧ pV b σ2 := by
      intro w hw
      obtain ⟨I', e, hD, hM', f⟩ := q_runC (n := n) hm hok hM
      have hv' := pV.same (n := n) hok hl hm (hI.kept (fun c hc => f c (by omega))) hM'
      obtain ⟨tk, hG, hB, hk, hE, -⟩ := hD
      obtain ⟨y, y1, y2⟩ := q_atLoop (n := n) (x := x1) hm hok.1 hM'.1 hK hB hk hG hw
      refine ⟨y, (n, sh, P, I'), ?_, y2, hv'⟩
      unfold fX8_at
      rw [q_is hm, Option.bind_some, if_neg e0, show fX8_in (n, sh, P, I) (nI w) 0 2 = _ from q_in _ (by omega) (show 0 < 2 ^ 31 by decide) (show 2 < 2 ^ 31 by decide), if_pos (show 0 ≤ w ∧ w ≤ 2 by omega), Option.bind_some, if_neg (show ¬ nI 1 = 0 by decide), e, Option.bind_some, tp_0]
      exact y1
    rcases tp_x x2 3 with hneg | ⟨w, hw, hw2, rfl⟩ | ⟨w, hw, hw2, rfl⟩
    · have hne : ∀ k : Int32, ¬ k < 0 → ¬ x2 = k := fun k hk z => hk (z ▸ hneg)
      refine ⟨-2, (n, sh, P, I), ?_, ?_, hv⟩
      · unfold fX7_at
        rw [c_is hl, Option.bind_some, if_pos e0', if_neg (hne 0 (by decide)), if_neg (hne 1 (by decide)), if_neg (hne 2 (by decide))]
      · unfold fX8_at
        rw [q_is hm, Option.bind_some, if_neg e0, tp_0, q_in_neg _ hneg (by decide), Option.bind_some, if_pos rfl]
    · obtain ⟨y, σ2, q1, q2, q3⟩ := hq w hw
      rcases (show w = 0 ∨ w = 1 ∨ w = 2 by omega) with rfl | rfl | rfl
      · obtain ⟨z, z1, z2⟩ := p_starterIn (n := n) hru hRI hB' hKt x1
        have hzy : z = y := tp_find_one z2 (tp_find_iff q2 (fun t j => ⟨fun u => u.1 rfl, fun u => ⟨fun _ => u, fun v => absurd rfl v⟩⟩))
        refine ⟨y, σ2, ?_, q1, q3⟩
        unfold fX7_at
        rw [c_is hl, Option.bind_some, if_pos e0', if_pos (show nI 0 = 0 from rfl), c_P1 hl, Option.bind_some, z1, Option.bind_some, hzy]
      · obtain ⟨z, z1, z2⟩ := p_userIn (n := n) hru hst hok.1 hI.1 hF hRI hB' x1 (show 0 < 2 by decide)
        have hzy : z = y := tp_find_one z2 (tp_find_iff q2 (fun t j => ⟨fun u => u.2 (by decide), fun u => ⟨fun v => absurd v (by decide), fun _ => u⟩⟩))
        refine ⟨y, σ2, ?_, q1, q3⟩
        unfold fX7_at
        rw [c_is hl, Option.bind_some, if_pos e0', if_neg (show ¬ nI 1 = 0 by decide), if_pos (show nI 1 = 1 from rfl), c_P1 hl, Option.bind_some, tp_0, z1, Option.bind_some, hzy]
      · obtain ⟨z, z1, z2⟩ := p_userIn (n := n) hru hst hok.1 hI.1 hF hRI hB' x1 (show 1 < 2 by decide)
        have hzy : z = y := tp_find_one z2 (tp_find_iff q2 (fun t j => ⟨fun u => u.2 (by decide), fun u => ⟨fun v => absurd v (by decide), fun _ => u⟩⟩))
        refine ⟨y, σ2, ?_, q1, q3⟩
        unfold fX7_at
        rw [c_is hl, Option.bind_some, if_pos e0', if_neg (show ¬ nI 2 = 0 by decide), if_neg (show ¬ nI 2 = 1 by decide), if_pos (show nI 2 = 2 from rfl), c_P1 hl, Option.bind_some, tp_1, z1, Option.bind_some, hzy]
    · have hne : ∀ k : Nat, k < 3 → ¬ nI w = nI k := fun k hk z => by have := (nI_eq hw2 (by omega)).mp z; omega
      refine ⟨-2, (n, sh, P, I), ?_, ?_, hv⟩
      · unfold fX7_at
        rw [c_is hl, Option.bind_some, if_pos e0', if_neg (show ¬ nI w = 0 from hne 0 (by decide)), if_neg (show ¬ nI w = 1 from hne 1 (by decide)), if_neg (show ¬ nI w = 2 from hne 2 (by decide))]
      · unfold fX8_at
        rw [q_is hm, Option.bind_some, if_neg e0, show fX8_in (n, sh, P, I) (nI w) 0 2 = _ from q_in _ hw2 (show 0 < 2 ^ 31 by decide) (show 2 < 2 ^ 31 by decide), if_neg (show ¬ (0 ≤ w ∧ w ≤ 2) by omega), Option.bind_some, if_pos (show nI 0 = 0 from rfl)]
theorem o_count (h : pV b σ) (x1 : Int32) : ∃ r σ2, fX7_count σ b x1 = some r ∧ fX8_count σ (b + 160) x1 = some (r, σ2) ∧ pV b σ2 := by
  obtain ⟨n, sh, P, I⟩ := σ
  obtain ⟨C, sw, hok, hl, hm, hI, hM⟩ := h
  dsimp only at hl hm hI hM
  have hv := pV.same (n := n) hok hl hm hI hM
  have hru := hl.2.2.1
  have hst := hl.2.1
  have hhi := hl.2.2.2.2.2.2.1
  have l5 := hl.2.2.2.2.2.1
  have hK : pMK C.1 (tp_Kf C.1 2) 2 := fun t ht => tp_Kf_K ht
  obtain ⟨I', e, hD, hM', f⟩ := q_runC (n := n) hm hok hM
  have hv' := pV.same (n := n) hok hl hm (hI.kept (fun c hc => f c (by omega))) hM'
  obtain ⟨tk, hG, hB, hk, hE, -⟩ := hD
  obtain ⟨tk', hF, hRI, hB', hk'⟩ := hI.2.1
  obtain ⟨ol, -, -, hh0, -, -⟩ := hI.2.2.2.1
  have g0 := (hG 0 (by decide)).1
  have g1 := (hG 1 (by decide)).1
  have j0 := (hRI 0 (by decide)).1
  have j1 := (hRI 1 (by decide)).1
  have hlen := c_len (n := n) hl hI
  unfold fX7_count fX8_count
  rw [c_is hl, Option.bind_some, q_is hm, Option.bind_some]
  rcases tp_x x1 10 with hneg | ⟨a, ha, ha2, rfl⟩ | ⟨a, ha, ha2, rfl⟩
  · have hne : ∀ k : Int32, ¬ k < 0 → ¬ x1 = k := fun k hk z => hk (z ▸ hneg)
    rw [show fX8_in (n, sh, P, I) x1 7 9 = some (nI 0) from q_in_neg _ hneg (show 7 < 2 ^ 31 by decide), Option.bind_some, if_pos (show nI 0 = 0 from rfl), e, Option.bind_some]
    rw [if_neg (hne 0 (by decide)), if_neg (hne 1 (by decide)), if_neg (hne 2 (by decide)), if_neg (hne 3 (by decide)), if_neg (hne 4 (by decide)), if_neg (hne 5 (by decide)), if_neg (hne 6 (by decide)), if_neg (hne 7 (by decide)), if_neg (hne 8 (by decide)), if_neg (hne 9 (by decide))]
    rw [if_neg (hne 0 (by decide)), if_neg (hne 1 (by decide)), if_neg (hne 2 (by decide)), if_neg (hne 3 (by decide)), if_neg (hne 4 (by decide)), if_neg (hne 5 (by decide)), if_neg (hne 6 (by decide))]
    exact ⟨_, _, rfl, rfl, hv'⟩
  · rcases (show a = 0 ∨ a = 1 ∨ a = 2 ∨ a = 3 ∨ a = 4 ∨ a = 5 ∨ a = 6 ∨ a = 7 ∨ a = 8 ∨ a = 9 by omega) with rfl | rfl | rfl | rfl | rfl | rfl | rfl | rfl | rfl | rfl
    · rw [if_pos (show nI 0 = 0 from rfl)]
      rw [show fX8_in (n, sh, P, I) (nI 0) 7 9 = some (nI 0) from q_in _ (show 0 < 2 ^ 31 by decide) (show 7 < 2 ^ 31 by decide) (show 9 < 2 ^ 31 by decide), Option.bind_some, if_pos (show nI 0 = 0 from rfl), e, Option.bind_some]
      rw [if_pos (show nI 0 = 0 from rfl)]
      rw [c_P1 hl, Option.bind_some, hlen, Option.bind_some]
      exact ⟨_, _, rfl, rfl, hv'⟩
    · rw [if_neg (show ¬ nI 1 = 0 by decide), if_pos (show nI 1 = 1 from rfl)]
      rw [show fX8_in (n, sh, P, I) (nI 1) 7 9 = some (nI 0) from q_in _ (show 1 < 2 ^ 31 by decide) (show 7 < 2 ^ 31 by decide) (show 9 < 2 ^ 31 by decide), Option.bind_some, if_pos (show nI 0 = 0 from rfl), e, Option.bind_some]
      rw [if_neg (show ¬ nI 1 = 0 by decide), if_pos (show nI 1 = 1 from rfl)]
      rw [c_P1 hl, Option.bind_some, r_P1 hru, Option.bind_some, tp_0, r_a8 hru (show 0 < 2 by decide), Option.bind_some, Option.bind_some, r_P1 hru, Option.bind_some, tp_1, r_a8 hru (show 1 < 2 by decide), Option.bind_some, j0, j1, q_P17 hm, Option.bind_some, q_a13 hm (show 0 < 2 by decide), Option.bind_some, Option.bind_some, q_a13 hm (show 1 < 2 by decide), Option.bind_some, g0, g1]
      exact ⟨_, _, rfl, rfl, hv'⟩
    · rw [if_neg (show ¬ nI 2 = 0 by decide), if_neg (show ¬ nI 2 = 1 by decide), if_pos (show nI 2 = 2 from rfl)]
      rw [show fX8_in (n, sh, P, I) (nI 2) 7 9 = some (nI 0) from q_in _ (show 2 < 2 ^ 31 by decide) (show 7 < 2 ^ 31 by decide) (show 9 < 2 ^ 31 by decide), Option.bind_some, if_pos (show nI 0 = 0 from rfl), e, Option.bind_some]
      rw [if_neg (show ¬ nI 2 = 0 by decide), if_neg (show ¬ nI 2 = 1 by decide), if_pos (show nI 2 = 2 from rfl)]
      rw [c_P1 hl, Option.bind_some, hlen, Option.bind_some, Option.bind_some, r_P1 hru, Option.bind_some, tp_0, r_a8 hru (show 0 < 2 by decide), Option.bind_some, Option.bind_some, r_P1 hru, Option.bind_some, tp_1, r_a8 hru (show 1 < 2 by decide), Option.bind_some, j0, j1, q_P17 hm, Option.bind_some, q_a13 hm (show 0 < 2 by decide), Option.bind_some, Option.bind_some, q_a13 hm (show 1 < 2 by decide), Option.bind_some, g0, g1]
      exact ⟨_, _, rfl, rfl, hv'⟩
    · rw [if_neg (show ¬ nI 3 = 0 by decide), if_neg (show ¬ nI 3 = 1 by decide), if_neg (show ¬ nI 3 = 2 by decide), if_pos (show nI 3 = 3 from rfl)]
      rw [show fX8_in (n, sh, P, I) (nI 3) 7 9 = some (nI 0) from q_in _ (show 3 < 2 ^ 31 by decide) (show 7 < 2 ^ 31 by decide) (show 9 < 2 ^ 31 by decide), Option.bind_some, if_pos (show nI 0 = 0 from rfl), e, Option.bind_some]
      rw [if_neg (show ¬ nI 3 = 0 by decide), if_neg (show ¬ nI 3 = 1 by decide), if_neg (show ¬ nI 3 = 2 by decide), if_pos (show nI 3 = 3 from rfl)]
      have v2 := hM'.1.1 1 (by decide)
      rw [Nat.zero_add] at v2
      rw [tp_0, tp_1, c_P1 hl, Option.bind_some, p_ticksIn hru hst hok.1 hI.1 hF hRI hB' (show 0 < 2 by decide), Option.bind_some, q_stepsOf hm hok.1 hM'.1 hK hB hG (show 0 < 2 by decide) (show 0 < 2 by decide), Option.bind_some, q_stepsOf hm hok.1 hM'.1 hK hB hG (show 1 < 2 by decide) (show 0 < 2 by decide), Option.bind_some, q_P0 hm, Option.bind_some, q_a1 hm (by decide), Option.bind_some, v2, nI_add, pk_mul]
      exact ⟨_, _, rfl, rfl, hv'⟩
    · rw [if_neg (show ¬ nI 4 = 0 by decide), if_neg (show ¬ nI 4 = 1 by decide), if_neg (show ¬ nI 4 = 2 by decide), if_neg (show ¬ nI 4 = 3 by decide), if_pos (show nI 4 = 4 from rfl)]
      rw [show fX8_in (n, sh, P, I) (nI 4) 7 9 = some (nI 0) from q_in _ (show 4 < 2 ^ 31 by decide) (show 7 < 2 ^ 31 by decide) (show 9 < 2 ^ 31 by decide), Option.bind_some, if_pos (show nI 0 = 0 from rfl), e, Option.bind_some]
      rw [if_neg (show ¬ nI 4 = 0 by decide), if_neg (show ¬ nI 4 = 1 by decide), if_neg (show ¬ nI 4 = 2 by decide), if_neg (show ¬ nI 4 = 3 by decide), if_pos (show nI 4 = 4 from rfl)]
      have v2 := hM'.1.1 2 (by decide)
      rw [Nat.zero_add] at v2
      rw [tp_0, tp_1, show (2 : Int32) = nI 2 from rfl, c_P1 hl, Option.bind_some, p_ticksIn hru hst hok.1 hI.1 hF hRI hB' (show 1 < 2 by decide), Option.bind_some, q_stepsOf hm hok.1 hM'.1 hK hB hG (show 0 < 2 by decide) (show 1 < 2 by decide), Option.bind_some, q_stepsOf hm hok.1 hM'.1 hK hB hG (show 1 < 2 by decide) (show 1 < 2 by decide), Option.bind_some, q_P0 hm, Option.bind_some, q_a1 hm (by decide), Option.bind_some, v2, nI_add, pk_mul]
      exact ⟨_, _, rfl, rfl, hv'⟩
    · rw [if_neg (show ¬ nI 5 = 0 by decide), if_neg (show ¬ nI 5 = 1 by decide), if_neg (show ¬ nI 5 = 2 by decide), if_neg (show ¬ nI 5 = 3 by decide), if_neg (show ¬ nI 5 = 4 by decide), if_pos (show nI 5 = 5 from rfl)]
      rw [show fX8_in (n, sh, P, I) (nI 5) 7 9 = some (nI 0) from q_in _ (show 5 < 2 ^ 31 by decide) (show 7 < 2 ^ 31 by decide) (show 9 < 2 ^ 31 by decide), Option.bind_some, if_pos (show nI 0 = 0 from rfl), e, Option.bind_some]
      rw [if_neg (show ¬ nI 5 = 0 by decide), if_neg (show ¬ nI 5 = 1 by decide), if_neg (show ¬ nI 5 = 2 by decide), if_neg (show ¬ nI 5 = 3 by decide), if_neg (show ¬ nI 5 = 4 by decide), if_pos (show nI 5 = 5 from rfl)]
      rw [c_P4 hl, Option.bind_some, e_gI l5.2.2.2.2.1, Option.bind_some, hI.2.2.1.1, q_gI hm, Option.bind_some, hM'.2.2.2.2]
      exact ⟨_, _, rfl, rfl, hv'⟩
    · rw [if_neg (show ¬ nI 6 = 0 by decide), if_neg (show ¬ nI 6 = 1 by decide), if_neg (show ¬ nI 6 = 2 by decide), if_neg (show ¬ nI 6 = 3 by decide), if_neg (show ¬ nI 6 = 4 by decide), if_neg (show ¬ nI 6 = 5 by decide), if_pos (show nI 6 = 6 from rfl)]
      rw [show fX8_in (n, sh, P, I) (nI 6) 7 9 = some (nI 0) from q_in _ (show 6 < 2 ^ 31 by decide) (show 7 < 2 ^ 31 by decide) (show 9 < 2 ^ 31 by decide), Option.bind_some, if_pos (show nI 0 = 0 from rfl), e, Option.bind_some]
      rw [if_neg (show ¬ nI 6 = 0 by decide), if_neg (show ¬ nI 6 = 1 by decide), if_neg (show ¬ nI 6 = 2 by decide), if_neg (show ¬ nI 6 = 3 by decide), if_neg (show ¬ nI 6 = 4 by decide), if_neg (show ¬ nI 6 = 5 by decide), if_pos (show nI 6 = 6 from rfl)]
      rw [c_P6 hl, Option.bind_some, e_gI hhi.1, Option.bind_some, hh0, q_gI hm, Option.bind_some, hM'.2.1.2.1]
      exact ⟨_, _, rfl, rfl, hv'⟩
    · rw [if_neg (show ¬ nI 7 = 0 by decide), if_neg (show ¬ nI 7 = 1 by decide), if_neg (show ¬ nI 7 = 2 by decide), if_neg (show ¬ nI 7 = 3 by decide), if_neg (show ¬ nI 7 = 4 by decide), if_neg (show ¬ nI 7 = 5 by decide), if_neg (show ¬ nI 7 = 6 by decide), if_pos (show nI 7 = 7 from rfl)]
      rw [show fX8_in (n, sh, P, I) (nI 7) 7 9 = some (nI 1) from q_in _ (show 7 < 2 ^ 31 by decide) (show 7 < 2 ^ 31 by decide) (show 9 < 2 ^ 31 by decide), Option.bind_some, if_neg (show ¬ nI 1 = 0 by decide), q_P0 hm, Option.bind_some, show nI 7 - (7 : Int32) = nI 0 from rfl, q_a1 hm (by decide), Option.bind_some]
      have v1 := hI.1.1 0 (by decide)
      have v2 := hM.1.1 0 (by decide)
      rw [Nat.zero_add] at v2
      rw [v2, c_P0 hl, Option.bind_some, r_sP0 hst, Option.bind_some, show (0 : Int32) = nI 0 from rfl, r_sse hst (by decide), Option.bind_some, v1]
      exact ⟨_, _, rfl, rfl, hv⟩
    · rw [if_neg (show ¬ nI 8 = 0 by decide), if_neg (show ¬ nI 8 = 1 by decide), if_neg (show ¬ nI 8 = 2 by decide), if_neg (show ¬ nI 8 = 3 by decide), if_neg (show ¬ nI 8 = 4 by decide), if_neg (show ¬ nI 8 = 5 by decide), if_neg (show ¬ nI 8 = 6 by decide), if_neg (show ¬ nI 8 = 7 by decide), if_pos (show nI 8 = 8 from rfl)]
      rw [show fX8_in (n, sh, P, I) (nI 8) 7 9 = some (nI 1) from q_in _ (show 8 < 2 ^ 31 by decide) (show 7 < 2 ^ 31 by decide) (show 9 < 2 ^ 31 by decide), Option.bind_some, if_neg (show ¬ nI 1 = 0 by decide), q_P0 hm, Option.bind_some, show nI 8 - (7 : Int32) = nI 1 from rfl, q_a1 hm (by decide), Option.bind_some]
      have v1 := hI.1.1 1 (by decide)
      have v2 := hM.1.1 1 (by decide)
      rw [Nat.zero_add] at v2
      rw [v2, c_P0 hl, Option.bind_some, r_sP0 hst, Option.bind_some, show (1 : Int32) = nI 1 from rfl, r_sse hst (by decide), Option.bind_some, v1]
      exact ⟨_, _, rfl, rfl, hv⟩
    · rw [if_neg (show ¬ nI 9 = 0 by decide), if_neg (show ¬ nI 9 = 1 by decide), if_neg (show ¬ nI 9 = 2 by decide), if_neg (show ¬ nI 9 = 3 by decide), if_neg (show ¬ nI 9 = 4 by decide), if_neg (show ¬ nI 9 = 5 by decide), if_neg (show ¬ nI 9 = 6 by decide), if_neg (show ¬ nI 9 = 7 by decide), if_neg (show ¬ nI 9 = 8 by decide), if_pos (show nI 9 = 9 from rfl)]
      rw [show fX8_in (n, sh, P, I) (nI 9) 7 9 = some (nI 1) from q_in _ (show 9 < 2 ^ 31 by decide) (show 7 < 2 ^ 31 by decide) (show 9 < 2 ^ 31 by decide), Option.bind_some, if_neg (show ¬ nI 1 = 0 by decide), q_P0 hm, Option.bind_some, show nI 9 - (7 : Int32) = nI 2 from rfl, q_a1 hm (by decide), Option.bind_some]
      have v1 := hI.1.1 2 (by decide)
      have v2 := hM.1.1 2 (by decide)
      rw [Nat.zero_add] at v2
      rw [v2, c_P0 hl, Option.bind_some, r_sP0 hst, Option.bind_some, show (2 : Int32) = nI 2 from rfl, r_sse hst (by decide), Option.bind_some, v1]
      exact ⟨_, _, rfl, rfl, hv⟩
  · have hne : ∀ k : Nat, k < 10 → ¬ nI a = nI k := fun k hk z => by have := (nI_eq ha2 (by omega)).mp z; omega
    rw [show fX8_in (n, sh, P, I) (nI a) 7 9 = _ from q_in _ ha2 (show 7 < 2 ^ 31 by decide) (show 9 < 2 ^ 31 by decide), if_neg (show ¬ (7 ≤ a ∧ a ≤ 9) by omega), Option.bind_some, if_pos (show nI 0 = 0 from rfl), e, Option.bind_some]
    rw [if_neg (show ¬ nI a = 0 from hne 0 (by decide)), if_neg (show ¬ nI a = 1 from hne 1 (by decide)), if_neg (show ¬ nI a = 2 from hne 2 (by decide)), if_neg (show ¬ nI a = 3 from hne 3 (by decide)), if_neg (show ¬ nI a = 4 from hne 4 (by decide)), if_neg (show ¬ nI a = 5 from hne 5 (by decide)), if_neg (show ¬ nI a = 6 from hne 6 (by decide)), if_neg (show ¬ nI a = 7 from hne 7 (by decide)), if_neg (show ¬ nI a = 8 from hne 8 (by decide)), if_neg (show ¬ nI a = 9 from hne 9 (by decide))]
    rw [if_neg (show ¬ nI a = 0 from hne 0 (by decide)), if_neg (show ¬ nI a = 1 from hne 1 (by decide)), if_neg (show ¬ nI a = 2 from hne 2 (by decide)), if_neg (show ¬ nI a = 3 from hne 3 (by decide)), if_neg (show ¬ nI a = 4 from hne 4 (by decide)), if_neg (show ¬ nI a = 5 from hne 5 (by decide)), if_neg (show ¬ nI a = 6 from hne 6 (by decide))]
    exact ⟨_, _, rfl, rfl, hv'⟩
end TPAU
