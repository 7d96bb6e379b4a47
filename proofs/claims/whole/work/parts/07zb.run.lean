section TPB
variable {n : Nat} {sh : tw_Sh} {P : Nat → Nat → Option Nat} {I : Nat → Nat → Int32} {m t k ab tick wo turns : Nat} {S : tp_S} {K : Nat → Nat} {R : tp_R} {tau : Nat → Nat}
def tp_al (ab : Nat) : Int32 := tp_rI (if ab = 2 then 2 else 1 - ab)
theorem q_init (x1 x2 : Int32) (hm : pMo sh P m) (hS : pMS I (m + 1) 0 S) (hab : ab < 3) (ht : t < 2) (q : Nat) :
    ∃ I', fX8_goThrough_l3 (q + 1) (n, sh, P, I) m x1 x2 (tp_al ab) (nI t) = fX8_goThrough_l3 q (n, sh, P, I') m x1 x2 (tp_al ab) (nI (t + 1)) ∧ (I' (m + 13) t = nI 0 ∧ I' (m + 14) t = (if t = ab then -nI 6 else nI 0) ∧ I' (m + 17) t = nI 0 ∧ (∀ j, j < 12 → I' (m + 7) (12 * t + j) = nI (S.2.2.2 t j)) ∧ (∀ j, j < 4 → I' (m + 8) (4 * t + j) = nI 0) ∧ ∀ j, j < 5 → I' (m + 15) (5 * t + j) = nI 0 ∧ I' (m + 16) (5 * t + j) = nI 0) ∧
      ((∀ j, j ≠ t → I' (m + 13) j = I (m + 13) j ∧ I' (m + 14) j = I (m + 14) j ∧ I' (m + 17) j = I (m + 17) j) ∧ (∀ j, (j < 12 * t ∨ 12 * t + 12 ≤ j) → I' (m + 7) j = I (m + 7) j) ∧ (∀ j, (j < 4 * t ∨ 4 * t + 4 ≤ j) → I' (m + 8) j = I (m + 8) j) ∧ ∀ j, (j < 5 * t ∨ 5 * t + 5 ≤ j) → I' (m + 15) j = I (m + 15) j ∧ I' (m + 16) j = I (m + 16) j) ∧ ∀ c, (c < m + 7 ∨ m + 19 ≤ c) → I' c = I c := by
  have hrt : nI t = tp_rI t := by unfold tp_rI; rw [if_neg (by omega)]
  have key : ∀ z : Nat → Int32, ∀ y : Int32, y = (if t = ab then -nI 6 else nI 0) → ∃ I', fX8_goThrough_b39 (fX8_goThrough_l3 q) (n, sh, P, tw_up I (m + 13) t (nI 0)) m x1 x2 (tp_al ab) (nI t) y (nI t) (m + 14) = fX8_goThrough_l3 q (n, sh, P, I') m x1 x2 (tp_al ab) (nI (t + 1)) ∧ (I' (m + 13) t = nI 0 ∧ I' (m + 14) t = (if t = ab then -nI 6 else nI 0) ∧ I' (m + 17) t = nI 0 ∧ (∀ j, j < 12 → I' (m + 7) (12 * t + j) = nI (S.2.2.2 t j)) ∧ (∀ j, j < 4 → I' (m + 8) (4 * t + j) = nI 0) ∧ ∀ j, j < 5 → I' (m + 15) (5 * t + j) = nI 0 ∧ I' (m + 16) (5 * t + j) = nI 0) ∧
      ((∀ j, j ≠ t → I' (m + 13) j = I (m + 13) j ∧ I' (m + 14) j = I (m + 14) j ∧ I' (m + 17) j = I (m + 17) j) ∧ (∀ j, (j < 12 * t ∨ 12 * t + 12 ≤ j) → I' (m + 7) j = I (m + 7) j) ∧ (∀ j, (j < 4 * t ∨ 4 * t + 4 ≤ j) → I' (m + 8) j = I (m + 8) j) ∧ ∀ j, (j < 5 * t ∨ 5 * t + 5 ≤ j) → I' (m + 15) j = I (m + 15) j ∧ I' (m + 16) j = I (m + 16) j) ∧ ∀ c, (c < m + 7 ∨ m + 19 ≤ c) → I' c = I c := by
    intro _ y hy
    unfold fX8_goThrough_b39
    rw [tp_0, q_w14 hm ht, Option.bind_some, q_P21 hm, Option.bind_some, q_w17 hm ht, Option.bind_some, q_P22 hm, Option.bind_some, q_w18 hm ht, Option.bind_some]
    generalize hJ : tw_up (tw_up (tw_up (tw_up I (m + 13) t (nI 0)) (m + 14) t y) (m + 17) t (nI 0)) (m + 18) t (-6) = J
    have hJc : ∀ c, c ≠ m + 13 → c ≠ m + 14 → c ≠ m + 17 → c ≠ m + 18 → J c = I c := fun c c1 c2 c3 c4 => by rw [← hJ, tw_up_a c4, tw_up_a c3, tw_up_a c2, tw_up_a c1]
    obtain ⟨I1, e1, a1, a2, a3⟩ := q_init60 (n := n) (I := J) (fX8_goThrough_l3 q) x1 x2 (tp_al ab) hm (hS.keep (hJc _ (by omega) (by omega) (by omega) (by omega))) ht
    obtain ⟨I2, e2, b1, b2, b3⟩ := q_init108 (n := n) (I := I1) (fX8_goThrough_l3 q) x1 x2 (tp_al ab) hm ht
    obtain ⟨I3, e3, c1, c2, c3⟩ := q_init136 (n := n) (I := I2) (fX8_goThrough_l3 q) x1 x2 (tp_al ab) hm ht
    have f3 : ∀ c, c ≠ m + 7 → c ≠ m + 8 → c ≠ m + 15 → c ≠ m + 16 → I3 c = J c := fun c d1 d2 d3 d4 => by rw [c3 c d3 d4, b3 c d2, a3 c d1]
    refine ⟨I3, ?_, ⟨?_, ?_, ?_, ?_, ?_, c1⟩, ⟨?_, ?_, ?_, ?_⟩, ?_⟩
    · rw [← tp_0, e1]
      unfold fX8_goThrough_b105
      rw [e2]
      unfold fX8_goThrough_b133
      rw [e3]
      unfold fX8_goThrough_b174
      rw [tp_1, nI_add]
    · rw [f3 _ (by omega) (by omega) (by omega) (by omega), ← hJ, tw_up_a (by omega), tw_up_a (by omega), tw_up_a (by omega), tw_up_at]
    · rw [f3 _ (by omega) (by omega) (by omega) (by omega), ← hJ, tw_up_a (by omega), tw_up_a (by omega), tw_up_at]; exact hy
    · rw [f3 _ (by omega) (by omega) (by omega) (by omega), ← hJ, tw_up_a (by omega), tw_up_at]
    · intro j hj
      rw [c3 _ (by omega) (by omega), b3 _ (by omega)]; exact a1 j hj
    · intro j hj
      rw [c3 _ (by omega) (by omega)]; exact b1 j hj
    · intro j hj
      rw [f3 (m + 13) (by omega) (by omega) (by omega) (by omega), f3 (m + 14) (by omega) (by omega) (by omega) (by omega), f3 (m + 17) (by omega) (by omega) (by omega) (by omega), ← hJ]
      refine ⟨?_, ?_, ?_⟩
      · rw [tw_up_a (by omega), tw_up_a (by omega), tw_up_a (by omega), tw_up_k hj]
      · rw [tw_up_a (by omega), tw_up_a (by omega), tw_up_k hj, tw_up_a (by omega)]
      · rw [tw_up_a (by omega), tw_up_k hj, tw_up_a (by omega), tw_up_a (by omega)]
    · intro j hj
      rw [c3 _ (by omega) (by omega), b3 _ (by omega), a2 j hj, hJc _ (by omega) (by omega) (by omega) (by omega)]
    · intro j hj
      rw [c3 _ (by omega) (by omega), b2 j hj, a3 _ (by omega), hJc _ (by omega) (by omega) (by omega) (by omega)]
    · intro j hj
      rw [(c2 j hj).1, (c2 j hj).2, b3 _ (by omega), b3 _ (by omega), a3 _ (by omega), a3 _ (by omega), hJc _ (by omega) (by omega) (by omega) (by omega), hJc _ (by omega) (by omega) (by omega) (by omega)]
      exact ⟨rfl, rfl⟩
    · intro c hc
      rw [f3 _ (by omega) (by omega) (by omega) (by omega), hJc _ (by omega) (by omega) (by omega) (by omega)]
  show ∃ I', fX8_goThrough_h3 (fX8_goThrough_l3 q) (n, sh, P, I) m x1 x2 (tp_al ab) (nI t) = _ ∧ _
  unfold fX8_goThrough_h3 fX8_goThrough_b33
  rw [if_neg (show ¬ (2 : Int32) ≤ nI t from nI_ge (by omega) (by decide)), tp_0, q_P17 hm, Option.bind_some, q_w13 hm ht, Option.bind_some, q_P18 hm, Option.bind_some]
  by_cases e2 : ab = 2
  · rw [if_pos (show tp_al ab < nI 0 by rw [e2]; decide)]
    exact key (fun _ => 0) (nI 0) (by rw [if_neg (by omega)])
  · have hal : tp_al ab = nI (1 - ab) := by unfold tp_al tp_rI; rw [if_neg e2, if_neg (by omega)]
    rw [hal, if_neg (show ¬ nI (1 - ab) < nI 0 from nI_neg (by omega)), ← hal]
    by_cases e : t = ab
    · rw [if_neg (show ¬ tp_al ab = nI t from fun z => by rw [hal] at z; have := (nI_eq (by omega) (by omega)).mp z; omega)]
      exact key (fun _ => 0) (-6) (by rw [if_pos e]; rfl)
    · rw [if_pos (show tp_al ab = nI t by rw [hal]; congr 1; omega)]
      exact key (fun _ => 0) (nI 0) (by rw [if_neg e])
/-- the reference's cells after a run -/
def pMD (I : Nat → Nat → Int32) (m : Nat) (S : tp_S) (K : Nat → Nat) (R : tp_R) (ab : Nat) : Prop := ∃ tk, pMG I m S K R ab (fun _ => tk) ∧ pRB K R tk ∧ tk ≤ 4096 ∧ pMI S R ∧ ¬ tp_left K R
theorem q_go (hm : pMo sh P m) (hok : pSok S) (hS : pMS I (m + 1) 0 S) (hab : ab < 3) (hwo : wo < 3) (htu : turns ≤ 2) :
    ∃ I', fX8_goThrough (n, sh, P, I) m (nI turns) (tp_rI wo) (tp_al ab) = some (nI (tp_len (tp_run S (tp_Kf S ab) wo turns)), (n, sh, P, I')) ∧ pMD I' m S (tp_Kf S ab) (tp_run S (tp_Kf S ab) wo turns) ab ∧ ∀ c, (c < m + 7 ∨ m + 19 ≤ c) → I' c = I c := by
  have hK : pMK S (tp_Kf S ab) ab := fun t ht => tp_Kf_K ht
  obtain ⟨I1, e1, p1, q1, f1⟩ := q_init (n := n) (nI turns) (tp_rI wo) hm hS hab (show 0 < 2 by decide) (99997 + 1 + 1)
  obtain ⟨I2, e2, p2, q2, f2⟩ := q_init (n := n) (nI turns) (tp_rI wo) hm (hS.keep (f1 _ (by omega))) hab (show 1 < 2 by decide) (99997 + 1)
  have hG : pMG I2 m S (tp_Kf S ab) tp_R0 ab (fun _ => 0) := by
    intro t ht
    obtain ⟨x1, x2, x3, x4, x5, x6⟩ := p1
    obtain ⟨y1, y2, y3, y4, y5, y6⟩ := p2
    obtain ⟨z1, z2, z3, z4⟩ := q2
    have main : I2 (m + 13) t = nI 0 ∧ I2 (m + 14) t = (if t = ab then -nI 6 else nI 0) ∧ I2 (m + 17) t = nI 0 ∧ (∀ j, j < 12 → I2 (m + 7) (12 * t + j) = nI (S.2.2.2 t j)) ∧ (∀ j, j < 4 → I2 (m + 8) (4 * t + j) = nI 0) ∧ ∀ j, j < 5 → I2 (m + 15) (5 * t + j) = nI 0 ∧ I2 (m + 16) (5 * t + j) = nI 0 := by
      rcases (show t = 0 ∨ t = 1 by omega) with rfl | rfl
      · obtain ⟨w1, w2, w3⟩ := z1 0 (by decide)
        exact ⟨w1.trans x1, w2.trans x2, w3.trans x3, fun j hj => (z2 _ (by omega)).trans (x4 j hj), fun j hj => (z3 _ (by omega)).trans (x5 j hj), fun j hj => ⟨(z4 _ (by omega)).1.trans (x6 j hj).1, (z4 _ (by omega)).2.trans (x6 j hj).2⟩⟩
      · exact ⟨y1, y2, y3, y4, y5, y6⟩
    obtain ⟨m1, m2, m3, m4, m5, m6⟩ := main
    refine ⟨m1, ⟨fun z => by rw [m2, if_pos z], fun z => by rw [m2, if_neg z]; rfl⟩, fun j hj => absurd hj (Nat.not_lt_zero j), m5, ⟨m3, fun z => absurd z (Nat.not_lt_zero _)⟩, m4, fun _ => 0, fun k h1 h2 => ⟨Nat.zero_le _, (m6 k h2).1, (m6 k h2).2⟩, ?_⟩
    show 0 = if _ then 0 - tp_since tp_R0 t else 0
    split
    · exact (Nat.zero_sub _).symm
    · rfl
  obtain ⟨I3, tk, e3, g3, b3, k3, m3, n3, f3⟩ := q_loop (n := n) hm hok hK hwo htu 4096 tw_F 0 tp_R0 I2 (by omega) (by decide) (hS.keep (by rw [f2 _ (by omega), f1 _ (by omega)])) hG pRB_0 pMI_0 tp_J_0
  refine ⟨I3, ?_, ⟨tk, g3, b3, k3, m3, n3⟩, fun c hc => by rw [f3 c hc, f2 c hc, f1 c hc]⟩
  unfold fX8_goThrough
  rw [q_is hm, Option.bind_some, show tw_F = 99997 + 1 + 1 + 1 from rfl, tp_0, e1, e2]
  show fX8_goThrough_h3 (fX8_goThrough_l3 99997) (n, sh, P, I2) m (nI turns) (tp_rI wo) (tp_al ab) (nI 2) = _
  unfold fX8_goThrough_h3 fX8_goThrough_b180
  rw [if_pos (by decide), tp_0, e3]
  exact q_length hm hK b3 k3 g3 m3
theorem q_run (hm : pMo sh P m) (hok : pSok S) (hS : pMS I (m + 1) 0 S) :
    ∃ I', fX8_run (n, sh, P, I) m = some (nI (tp_len (tp_res S 2)), (n, sh, P, I')) ∧ pMD I' m S (tp_Kf S 2) (tp_res S 2) 2 ∧ ∀ c, (c < m + 7 ∨ m + 19 ≤ c) → I' c = I c := by
  obtain ⟨I', e, h2, h3⟩ := q_go (n := n) (wo := 2) (turns := S.1 0) (ab := 2) hm hok hS (by decide) (by decide) hok.1
  refine ⟨I', ?_, h2, h3⟩
  have h0 := hS.1 0 (by decide)
  rw [Nat.zero_add] at h0
  unfold fX8_run
  rw [q_is hm, Option.bind_some, q_P0 hm, Option.bind_some, tp_0, q_a1 hm (by decide), Option.bind_some, h0]
  have : fX8_goThrough (n, sh, P, I) m (nI (S.1 0)) (-6) (-6) = fX8_goThrough (n, sh, P, I) m (nI (S.1 0)) (tp_rI 2) (tp_al 2) := rfl
  rw [this, e, Option.bind_some]
  rfl
end TPB
