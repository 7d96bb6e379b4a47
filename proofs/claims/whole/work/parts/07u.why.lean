/-- pRB but for the waits -/
def pRw (K : Nat → Nat) (R : tp_R) (tick : Nat) : Prop := ∀ t, t < 2 → R.1 t ≤ K t ∧ R.2.2.2.2.2.2.2 t ≤ tick + 9 ∧ (∀ j, j < R.1 t → R.2.1 t j < tick ∧ R.2.2.1 t j ≤ tick + 9) ∧ True ∧ (∀ r, r < 4 → R.2.2.2.2.1 t r ≤ tick + 9) ∧ R.2.2.2.2.2.1 t ≤ tick + 9 ∧ R.2.2.2.2.2.2.1 t < 2
theorem pRB.w {K : Nat → Nat} {R : tp_R} {tick : Nat} (h : pRB K R tick) : pRw K R tick := fun t ht => by
  obtain ⟨h1, h2, h3, h4, h5⟩ := h t ht
  exact ⟨h1, h2, h3, trivial, h5⟩
theorem pRw.wt {K : Nat → Nat} {R : tp_R} {tick : Nat} (h : pRw K R tick) (w : Nat → Nat → Nat) : pRw K (R.1, R.2.1, R.2.2.1, w, R.2.2.2.2) tick := h
/-! The reference goes through a run: its cells at the head of a tick. -/
def tp_since (R : tp_R) (t : Nat) : Nat := if R.1 t = 0 then 0 else R.2.1 t (R.1 t - 1) + 1
def pMG (I : Nat → Nat → Int32) (m : Nat) (S : tp_S) (K : Nat → Nat) (R : tp_R) (ab : Nat) (tau : Nat → Nat) : Prop := ∀ t, t < 2 → I (m + 13) t = nI (R.1 t) ∧ ((t = ab → I (m + 14) t = -nI 6) ∧ (t ≠ ab → I (m + 14) t = nI (tp_od S t (R.1 t)))) ∧
  (∀ j, j < R.1 t → I (m + 9) (100 * t + j) = nI (R.2.1 t j) ∧ I (m + 10) (100 * t + j) = nI (tp_od S t j) ∧ I (m + 11) (100 * t + j) = nI (R.2.2.1 t j) ∧ I (m + 12) (100 * t + j) = nI (R.2.1 t j - (if j = 0 then 0 else R.2.1 t (j - 1) + 1))) ∧
  (∀ r, r < 4 → I (m + 8) (4 * t + r) = nI (R.2.2.2.2.1 t r)) ∧ (I (m + 17) t = nI (R.2.2.2.2.2.1 t) ∧ (0 < R.2.2.2.2.2.1 t → I (m + 18) t = nI (R.2.2.2.2.2.2.1 t))) ∧
  (∀ j, j < 12 → I (m + 7) (12 * t + j) = nI ((tp_pn (S.2.2.1 t) (S.2.2.2 t) (R.1 t)).2 j)) ∧
  ∃ p : Nat → Nat, (∀ k, 1 ≤ k → k < 5 → p k ≤ R.2.2.2.1 t k ∧ I (m + 15) (5 * t + k) = nI (R.2.2.2.1 t k - p k) ∧ I (m + 16) (5 * t + k) = nI (p k)) ∧ p 1 + p 2 + p 3 + p 4 = if R.1 t < K t then tau t - tp_since R t else 0
def pMK (S : tp_S) (K : Nat → Nat) (ab : Nat) : Prop := ∀ t, t < 2 → pK (if t = ab then 0 else S.2.1 t) (S.2.2.1 t) (S.2.2.2 t) (K t)
def tp_mx (R : tp_R) (t : Nat) : Nat → Nat
  | 0 => 0
  | j + 1 => if tp_mx R t j < R.2.2.1 t j then R.2.2.1 t j else tp_mx R t j
def pMI (S : tp_S) (R : tp_R) : Prop := ∀ t, t < 2 → (∀ j, j < R.1 t → R.2.2.1 t j = R.2.1 t j + tp_dur S (tp_room (tp_of S t j 0))) ∧ R.2.2.2.2.2.2.2 t = tp_mx R t (R.1 t)
theorem tp_b01 (p : Prop) [Decidable p] : (if p then 1 else 0) < 2 := by split <;> omega
section TPU
variable {n : Nat} {sh : tw_Sh} {P : Nat → Nat → Option Nat} {I : Nat → Nat → Int32} {m t ab tick wo turns : Nat} {S : tp_S} {K : Nat → Nat} {R : tp_R} {tau : Nat → Nat}
theorem pMK.in (hK : pMK S K ab) (ht : t < 2) {j : Nat} (hj : j < K t) : t ≠ ab ∧ tp_od S t j < S.2.1 t := by
  have h := (hK t ht).2.1 j hj
  by_cases e : t = ab
  · rw [if_pos e] at h; exact absurd h (Nat.not_lt_zero _)
  · rw [if_neg e] at h; exact ⟨e, h⟩
theorem q_inz (σ : tw_St) {a z : Nat} (ha : a < 1000) (hz : z < 1000) : fX8_in σ (nI a) (nI 0) (nI z - nI 1) = some (nI (if a < z then 1 else 0)) := by
  match z with
  | 0 =>
    unfold fX8_in
    rw [if_neg (show ¬ nI a < nI 0 from nI_neg (by omega)), if_pos, if_neg (by omega)]
    · rfl
    · have : ∀ a, a < 1000 → nI 0 - nI 1 < nI a := by decide +kernel
      exact this a ha
  | z + 1 =>
    rw [pk_sub (by omega), Nat.add_sub_cancel, q_in σ (by omega) (by omega) (by omega)]
    congr 2
    by_cases e : a < z + 1
    · rw [if_pos e, if_pos (by omega)]
    · rw [if_neg e, if_neg (by omega)]
theorem tp_od_lt (hok : pSok S) (hK : pMK S K ab) (ht : t < 2) (hab : t ≠ ab) {j : Nat} (hj : j ≤ K t) : tp_od S t j < 101 := by
  obtain ⟨o1, o2, o3⟩ := hok.2.2.2 t ht
  exact (tp_pn_ok o1 o2 o3 j (fun i hi => (hK.in ht (show i < K t by omega)).2)).1
theorem q_isOpen (hm : pMo sh P m) (hok : pSok S) (hS : pMS I (m + 1) 0 S) (hK : pMK S K ab) (hB : pRw K R tick) (hG : pMG I m S K R ab tau) (ht : t < 2) : fX8_isOpen (n, sh, P, I) m (nI t) = some (nI (if R.1 t < K t then 1 else 0)) := by
  obtain ⟨g1, ⟨g2, g2'⟩, -⟩ := hG t ht
  have hb := (hB t ht).1
  have hk := hK t ht
  have hz := (hok.2.2.2 t ht).1
  unfold fX8_isOpen
  rw [tp_1, tp_0, show (100 : Int32) = nI 100 from rfl]
  simp (disch := omega) only [q_is hm, q_P18 hm, q_a14 hm, q_many hm hS ht, Option.bind_some]
  by_cases e : t = ab
  · rw [g2 e]
    rw [if_pos e] at hk
    have : ¬ R.1 t < K t := fun z => by have := hk.2.1 (R.1 t) z; omega
    rw [if_neg this]
    unfold fX8_in
    rw [if_pos (show -nI 6 < nI 0 by decide)]
    rfl
  · rw [if_neg e] at hk
    have hod := tp_od_lt hok hK ht e hb
    rw [g2' e, q_inz _ (by omega) (by omega), Option.bind_some]
    by_cases e2 : R.1 t < K t
    · have := hk.2.1 _ e2
      have h100 := hk.1
      have h3 : tp_od S t (R.1 t) < S.2.1 t := this
      rw [if_pos h3, if_neg (by decide), if_pos e2]
      simp (disch := omega) only [q_P17 hm, q_a13 hm, g1, nI_leI, Option.bind_some]
      rw [if_neg (by omega)]
    · have hst : R.1 t = K t := by omega
      rw [if_neg e2]
      by_cases e3 : tp_od S t (R.1 t) < S.2.1 t
      · rw [if_pos e3, if_neg (by decide)]
        have : K t = 100 := by
          have h100 := hk.1
          have := hk.2.2
          by_cases h : K t < 100
          · have := this h
            rw [hst] at e3
            exact absurd e3 (Nat.not_lt.mpr this)
          · omega
        simp (disch := omega) only [q_P17 hm, q_a13 hm, g1, nI_leI, Option.bind_some]
        rw [if_pos (by omega)]
      · rw [if_neg e3]
        rfl
theorem tp_kind6 {o : Nat → Int32} (h : o 0 = nI 6) : tp_room (o 0) = 2 := by rw [h]; rfl
theorem q_isReady (hm : pMo sh P m) (hok : pSok S) (hS : pMS I (m + 1) 0 S) (hK : pMK S K ab) (hB : pRw K R tick) (hG : pMG I m S K R ab tau) (hE : pMI S R) (hk : tick ≤ 4096) (ht : t < 2) (ho : R.1 t < K t) : fX8_isReady (n, sh, P, I) m (nI t) (nI tick) = some (nI (if tp_rdy R t (tp_of S t (R.1 t) 1) tick = true ∧ tp_rdy R t (tp_of S t (R.1 t) 2) tick = true ∧ tp_rdy R t (tp_of S t (R.1 t) 3) tick = true then 1 else 0)) := by
  obtain ⟨g1, ⟨g2, g2'⟩, g3, g4, g5, g6, g7⟩ := hG t ht
  obtain ⟨hab, hin⟩ := hK.in ht ho
  have hz : ∀ t, t < 2 → S.2.1 t ≤ 12 := fun t ht => (hok.2.2.2 t ht).1
  have h12 := hz t ht
  have hK100 := (hK t ht).1
  have hord := (hok.2.2.2 t ht).2.1 _ hin
  have b3 := (hB t ht).2.2.1
  have b5 := (hB t ht).2.2.2.2.1
  have hstep : ∀ (q c : Nat) (y : Nat), c < 4 → 1 ≤ c → y < 2 → fX8_isReady_l62 (q + 1) (n, sh, P, I) m (nI t) (nI tick) (nI y) (nI c) = fX8_isReady_l62 q (n, sh, P, I) m (nI t) (nI tick) (nI (if y = 1 ∧ tp_rdy R t (tp_of S t (R.1 t) c) tick = true then 1 else 0)) (nI (c + 1)) := by
    intro q c y hc hc1 hy
    show fX8_isReady_h62 (fX8_isReady_l62 q) (n, sh, P, I) m (nI t) (nI tick) (nI y) (nI c) = _
    unfold fX8_isReady_h62 fX8_isReady_b112 fX8_isReady_b108 fX8_isReady_b113
    have hof := q_of (n := n) (k := tp_od S t (R.1 t)) hm hS hz ht hin (show c < 5 by omega)
    rw [if_neg (show ¬ (4 : Int32) ≤ nI c from nI_ge hc (by decide)), tp_1, tp_0, show (4 : Int32) = nI 4 from rfl]
    simp (disch := omega) only [q_P18 hm, q_a14 hm, g2' hab, hof, nI_add, Option.bind_some]
    show _ = fX8_isReady_l62 q (n, sh, P, I) m (nI t) (nI tick) (nI (if y = 1 ∧ tp_rdy R t (S.2.2.1 t (tp_od S t (R.1 t)) c) tick = true then 1 else 0)) (nI (c + 1))
    by_cases e : y = 0
    · subst e
      rw [if_pos rfl, if_neg (fun z => absurd z.1 (by decide))]
    · have hy1 : y = 1 := by omega
      subst hy1
      rw [if_neg (by decide)]
      have hbad : ∀ b : Bool, ((1 = 1 ∧ b = true) ↔ b = true) := fun b => ⟨fun z => z.2, fun z => ⟨rfl, z⟩⟩
      rcases hord.reg.1 c (by omega) with hx | ⟨r, hr4, hx⟩
      · rw [hx, if_pos (show -nI 6 < nI 0 by decide)]
        have : tp_rdy R t (-nI 6) tick = true := by unfold tp_rdy; rw [if_pos rfl]
        rw [if_pos ⟨rfl, this⟩]
      · rw [hx, if_neg (show ¬ nI r < nI 0 from nI_neg (by omega))]
        have h4 := g4 r hr4
        have h5 := b5 r hr4
        have hrd : tp_rdy R t (nI r) tick = decide (R.2.2.2.2.1 t r ≤ tick) := by
          unfold tp_rdy
          rw [if_neg (show ¬ nI r = -nI 6 by rw [tp_m6 (by omega)]; exact id), tp_n_nI (by omega)]
        simp (disch := omega) only [q_P12 hm, pk_mul, nI_add, q_a8 hm, h4, nI_ltI, Option.bind_some]
        by_cases e2 : R.2.2.2.2.1 t r ≤ tick
        · rw [if_neg (by omega), if_pos ⟨by first | trivial | rfl, by rw [hrd]; exact decide_eq_true e2⟩]
        · rw [if_pos (by omega), if_neg (fun z => e2 (by have := z.2; rw [hrd] at this; exact of_decide_eq_true this))]
  have h52 : fX8_isReady_b52 (n, sh, P, I) m (nI t) (nI tick) = some (nI (if tp_rdy R t (tp_of S t (R.1 t) 1) tick = true ∧ tp_rdy R t (tp_of S t (R.1 t) 2) tick = true ∧ tp_rdy R t (tp_of S t (R.1 t) 3) tick = true then 1 else 0)) := by
    unfold fX8_isReady_b52 fX8_isReady_b57
    rw [show tw_F = 99996 + 1 + 1 + 1 + 1 from rfl, tp_1, hstep _ 1 1 (by decide) (by decide) (by decide), hstep _ 2 _ (by decide) (by decide) (tp_b01 _), hstep _ 3 _ (by decide) (by decide) (tp_b01 _)]
    show fX8_isReady_h62 (fX8_isReady_l62 99996) (n, sh, P, I) m (nI t) (nI tick) _ (nI 4) = _
    unfold fX8_isReady_h62
    rw [if_pos (by decide)]
    cases tp_rdy R t (tp_of S t (R.1 t) 1) tick <;> cases tp_rdy R t (tp_of S t (R.1 t) 2) tick <;> cases tp_rdy R t (tp_of S t (R.1 t) 3) tick <;> rfl
  unfold fX8_isReady
  rw [tp_1, tp_0, show (100 : Int32) = nI 100 from rfl, show (6 : Int32) = nI 6 from rfl]
  simp (disch := omega) only [q_is hm, q_P17 hm, q_a13 hm, g1, Option.bind_some]
  by_cases e : R.1 t = 0
  · rw [if_pos (by rw [e])]
    exact h52
  · rw [if_neg (fun z => e ((nI_eq (by omega) (by decide)).mp z))]
    have hj : R.1 t - 1 < R.1 t := by omega
    obtain ⟨k1, k2, k3, k4⟩ := g3 _ hj
    have hin2 := (hK.in ht (show R.1 t - 1 < K t by omega)).2
    have hof := q_of (n := n) (k := tp_od S t (R.1 t - 1)) hm hS hz ht hin2 (show 0 < 5 by decide)
    rw [show (nI 100 * nI t + nI (R.1 t)) - nI 1 = nI (100 * t + (R.1 t - 1)) by rw [pk_mul, nI_add, pk_sub (by omega)]; congr 1; omega]
    simp (disch := omega) only [q_P14 hm, q_a10 hm, k2, hof, Option.bind_some]
    by_cases e2 : S.2.2.1 t (tp_od S t (R.1 t - 1)) 0 = nI 6
    · rw [if_pos e2]
      have hen := (hE t ht).1 _ hj
      have hroom : tp_room (tp_of S t (R.1 t - 1) 0) = 2 := tp_kind6 (o := S.2.2.1 t (tp_od S t (R.1 t - 1))) e2
      rw [hroom] at hen
      have hdur : tp_dur S 2 = 1 := rfl
      rw [hdur] at hen
      have hs := (b3 _ hj).1
      have he := (b3 _ hj).2
      simp (disch := omega) only [q_P15 hm, q_a11 hm, k3, nI_ltI, Option.bind_some]
      rw [if_neg (by omega)]
      exact h52
    · rw [if_neg e2]
      exact h52
theorem q_whyNot (hm : pMo sh P m) (hok : pSok S) (hS : pMS I (m + 1) 0 S) (hK : pMK S K ab) (hB : pRw K R tick) (hG : pMG I m S K R ab tau) (hE : pMI S R) (hk : tick ≤ 4096) (hwo : wo < 3) (ht : t < 2) (ho : R.1 t < K t) : fX8_whyNot (n, sh, P, I) m (nI t) (nI tick) (tp_rI wo) = some (nI (tp_hind S K R wo t tick)) := by
  obtain ⟨g1, ⟨g2, g2'⟩, g3, g4, g5, g6, g7⟩ := hG t ht
  obtain ⟨hab, hin⟩ := hK.in ht ho
  have hz : ∀ t, t < 2 → S.2.1 t ≤ 12 := fun t ht => (hok.2.2.2 t ht).1
  have hof := q_of (n := n) (k := tp_od S t (R.1 t)) hm hS hz ht hin (show 0 < 5 by decide)
  have hrdy := q_isReady (n := n) hm hok hS hK hB hG hE hk ht ho
  have hod := tp_od_lt hok hK ht hab (show R.1 t ≤ K t by omega)
  unfold fX8_whyNot tp_hind
  rw [tp_0, tp_1]
  simp (disch := omega) only [q_is hm, q_P18 hm, q_a14 hm, g2' hab, hof, q_roomOf, hrdy, Option.bind_some]
  rw [if_pos ho]
  by_cases e1 : tp_rdy R t (tp_of S t (R.1 t) 1) tick = true ∧ tp_rdy R t (tp_of S t (R.1 t) 2) tick = true ∧ tp_rdy R t (tp_of S t (R.1 t) 3) tick = true
  · rw [if_pos e1, if_neg (by decide), if_pos e1]
    show (if tp_rI (tp_room (tp_of S t (R.1 t) 0)) < nI 0 then _ else _) = _
    have hrl := tp_room_lt (tp_of S t (R.1 t) 0)
    have hrm' : tp_room (S.2.2.1 t (tp_od S t (R.1 t)) 0) = tp_room (tp_of S t (R.1 t) 0) := rfl
    rw [hrm']
    generalize tp_room (tp_of S t (R.1 t) 0) = rm at hrl
    by_cases e2 : rm = 2
    · subst e2
      rw [if_pos (by decide), if_pos (Or.inl rfl)]
    · have hrm : rm < 2 := by omega
      have hri : tp_rI rm = nI rm := by unfold tp_rI; rw [if_neg e2]
      rw [if_neg (show ¬ tp_rI rm < nI 0 by rw [hri]; exact nI_neg (by omega))]
      by_cases e3 : rm = wo
      · rw [if_pos ((tp_rI_eq hrl hwo).mpr e3), if_pos (Or.inr (Or.inl e3))]
      · rw [if_neg (fun z => e3 ((tp_rI_eq hrl hwo).mp z))]
        obtain ⟨k1, k2⟩ := (hG rm hrm).2.2.2.2.1
        have d6 := (hB rm hrm).2.2.2.2.2.1
        have d7 := (hB rm hrm).2.2.2.2.2.2
        simp (disch := omega) only [hri, q_P21 hm, q_a17 hm, k1, nI_leI, Option.bind_some]
        by_cases e4 : R.2.2.2.2.2.1 rm ≤ tick
        · rw [if_pos e4, if_pos (Or.inr (Or.inr e4))]
        · rw [if_neg e4, if_neg (by simp [e2, e3, e4])]
          have k8 := k2 (by omega)
          simp (disch := omega) only [q_P22 hm, q_a18 hm, k8, nI_eq, Option.bind_some]
          by_cases e5 : R.2.2.2.2.2.2.1 rm = t
          · rw [if_pos e5, if_pos e5]; rfl
          · rw [if_neg e5, if_neg e5]; rfl
  · rw [if_neg e1, if_pos rfl, if_neg e1]
end TPU
