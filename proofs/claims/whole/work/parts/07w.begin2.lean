section TPW
variable {n : Nat} {sh : tw_Sh} {P : Nat → Nat → Option Nat} {I : Nat → Nat → Int32} {m t k ab tick wo turns : Nat} {S : tp_S} {K : Nat → Nat} {R : tp_R} {tau : Nat → Nat}
theorem tp_since_le (hB : pRw K R tick) (ht : t < 2) : tp_since R t ≤ tick := by
  unfold tp_since
  split
  · omega
  · have := ((hB t ht).2.2.1 (R.1 t - 1) (by omega)).1
    omega
theorem q_wait (k183 : (tw_St → Nat → Int32 → Int32 → Int32 → Option (Int32 × tw_St))) (x1 : Int32) (hm : pMo sh P m) (hok : pSok S) (hS : pMS I (m + 1) 0 S) (hK : pMK S K ab) (hB : pRw K R tick) (hG : pMG I m S K R ab tau) (hE : pMI S R) (hk : tick ≤ 4096) (hwo : wo < 3) (ht : t < 2) {st : Nat} (hst : st < 3) (htau : tau t = tick) (q : Nat) :
    ∃ I', fX8_goThrough_l212 k183 (q + 1) (n, sh, P, I) m x1 (tp_rI wo) (nI tick) (tp_rI st) (nI t) = fX8_goThrough_l212 k183 q (n, sh, P, I') m x1 (tp_rI wo) (nI tick) (tp_rI st) (nI (t + 1)) ∧ pMG I' m S K (tp_wait K R (fun t => tp_hind S K R wo t tick) st t) ab (fun u => if u = t ∧ t ≠ st then tau u + 1 else tau u) ∧ ∀ c, c ≠ m + 16 → I' c = I c := by
  have hrt : nI t = tp_rI t := by unfold tp_rI; rw [if_neg (by omega)]
  show ∃ I', fX8_goThrough_h212 k183 (fX8_goThrough_l212 k183 q) (n, sh, P, I) m x1 (tp_rI wo) (nI tick) (tp_rI st) (nI t) = _ ∧ _
  unfold fX8_goThrough_h212 fX8_goThrough_b270
  rw [if_neg (show ¬ (2 : Int32) ≤ nI t from nI_ge (by omega) (by decide)), tp_1, tp_0, show (5 : Int32) = nI 5 from rfl, show (4 : Int32) = nI 4 from rfl]
  by_cases e : t = st
  · rw [if_pos (by rw [hrt, e])]
    refine ⟨I, by rw [nI_add], ?_, fun _ _ => rfl⟩
    have : tp_wait K R (fun t => tp_hind S K R wo t tick) st t = R := by unfold tp_wait; rw [if_neg (fun z => z.1 e)]
    rw [this]
    have h2 : (fun u => if u = t ∧ t ≠ st then tau u + 1 else tau u) = tau := by funext u; rw [if_neg (fun z => z.2 e)]
    rw [h2]; exact hG
  · rw [if_neg (fun z => e ((tp_rI_eq (by omega) hst).mp (hrt.symm.trans z))), q_isOpen hm hok hS hK hB hG ht, Option.bind_some]
    by_cases eo : R.1 t < K t
    · rw [if_pos eo, if_neg (by decide), q_whyNot hm hok hS hK hB hG hE hk hwo ht eo, Option.bind_some, q_P20 hm, Option.bind_some]
      have h4 := tp_hind_st (S := S) (wo := wo) (tick := tick) eo
      obtain ⟨p, hp, hsum⟩ := (hG t ht).2.2.2.2.2.2
      have hs := tp_since_le hB ht
      have key : ∀ k', k' = (if tp_hind S K R wo t tick = 0 then 4 else tp_hind S K R wo t tick) → ∃ I', fX8_goThrough_b264 k183 (fX8_goThrough_l212 k183 q) (n, sh, P, I) m x1 (tp_rI wo) (nI tick) (tp_rI st) (nI t) (nI k') (nI 5 * nI t) (m + 16) = fX8_goThrough_l212 k183 q (n, sh, P, I') m x1 (tp_rI wo) (nI tick) (tp_rI st) (nI (t + 1)) ∧ pMG I' m S K (tp_wait K R (fun t => tp_hind S K R wo t tick) st t) ab (fun u => if u = t ∧ t ≠ st then tau u + 1 else tau u) ∧ ∀ c, c ≠ m + 16 → I' c = I c := by
        intro k' hk'
        have hk1 : 1 ≤ k' ∧ k' < 5 := by rw [hk']; split <;> omega
        obtain ⟨p1, p2, p3⟩ := hp k' hk1.1 hk1.2
        have hw : tp_wait K R (fun t => tp_hind S K R wo t tick) st t = (R.1, R.2.1, R.2.2.1, tw_up R.2.2.2.1 t k' (R.2.2.2.1 t k' + 1), R.2.2.2.2) := by
          unfold tp_wait
          rw [if_pos ⟨e, eo⟩, ← hk']
        unfold fX8_goThrough_b264 fX8_goThrough_b270
        rw [tp_1]
        simp (disch := omega) only [pk_mul, nI_add, q_a16 hm, p3, q_w16 hm, Option.bind_some]
        refine ⟨_, rfl, ?_, fun c hc => tw_up_a hc⟩
        rw [hw]
        intro t' ht'
        obtain ⟨g1, g2, g3, g4, g5, g6, g7⟩ := hG t' ht'
        refine ⟨by rw [tw_up_a (by omega)]; exact g1, ⟨fun z => by rw [tw_up_a (by omega)]; exact g2.1 z, fun z => by rw [tw_up_a (by omega)]; exact g2.2 z⟩, fun j hj => ?_, fun r hr => by rw [tw_up_a (by omega)]; exact g4 r hr, ⟨by rw [tw_up_a (by omega)]; exact g5.1, fun z => by rw [tw_up_a (by omega)]; exact g5.2 z⟩, fun j hj => by rw [tw_up_a (by omega)]; exact g6 j hj, ?_⟩
        · rw [tw_up_a (by omega), tw_up_a (by omega), tw_up_a (by omega), tw_up_a (by omega)]; exact g3 j hj
        · by_cases et : t' = t
          · subst et
            refine ⟨fun k => if k = k' then p k + 1 else p k, fun k h1 h2 => ?_, ?_⟩
            · obtain ⟨x1, x2, x3⟩ := hp k h1 h2
              by_cases ek : k = k'
              · subst ek
                show (if k = k then p k + 1 else p k) ≤ tw_up R.2.2.2.1 t' k (R.2.2.2.1 t' k + 1) t' k ∧ tw_up I (m + 16) (5 * t' + k) (nI (p k + 1)) (m + 15) (5 * t' + k) = nI (tw_up R.2.2.2.1 t' k (R.2.2.2.1 t' k + 1) t' k - (if k = k then p k + 1 else p k)) ∧ tw_up I (m + 16) (5 * t' + k) (nI (p k + 1)) (m + 16) (5 * t' + k) = nI (if k = k then p k + 1 else p k)
                rw [if_pos rfl, tw_up_at, tw_up_at, tw_up_a (by omega), x2]
                exact ⟨by omega, by congr 1; omega, rfl⟩
              · have hR : tw_up R.2.2.2.1 t' k' (R.2.2.2.1 t' k' + 1) t' k = R.2.2.2.1 t' k := by unfold tw_up; rw [if_neg (fun z => ek z.2)]
                show (if k = k' then p k + 1 else p k) ≤ tw_up R.2.2.2.1 t' k' (R.2.2.2.1 t' k' + 1) t' k ∧ tw_up I (m + 16) (5 * t' + k') (nI (p k' + 1)) (m + 15) (5 * t' + k) = nI (tw_up R.2.2.2.1 t' k' (R.2.2.2.1 t' k' + 1) t' k - (if k = k' then p k + 1 else p k)) ∧ tw_up I (m + 16) (5 * t' + k') (nI (p k' + 1)) (m + 16) (5 * t' + k) = nI (if k = k' then p k + 1 else p k)
                rw [if_neg ek, hR, tw_up_a (by omega), tw_up_k (by omega)]
                exact ⟨x1, x2, x3⟩
            · rw [if_pos eo] at hsum
              show (if 1 = k' then p 1 + 1 else p 1) + (if 2 = k' then p 2 + 1 else p 2) + (if 3 = k' then p 3 + 1 else p 3) + (if 4 = k' then p 4 + 1 else p 4) = if R.1 t' < K t' then (if t' = t' ∧ t' ≠ st then tau t' + 1 else tau t') - tp_since R t' else 0
              rw [if_pos eo, if_pos (show t' = t' ∧ t' ≠ st from ⟨rfl, e⟩)]
              rcases (show k' = 1 ∨ k' = 2 ∨ k' = 3 ∨ k' = 4 by omega) with rfl | rfl | rfl | rfl <;> simp <;> omega
          · obtain ⟨p', hp', hsum'⟩ := g7
            refine ⟨p', fun k h1 h2 => ?_, ?_⟩
            · obtain ⟨x1, x2, x3⟩ := hp' k h1 h2
              have hR : tw_up R.2.2.2.1 t k' (R.2.2.2.1 t k' + 1) t' k = R.2.2.2.1 t' k := by unfold tw_up; rw [if_neg (fun z => et z.1)]
              show p' k ≤ tw_up R.2.2.2.1 t k' (R.2.2.2.1 t k' + 1) t' k ∧ tw_up I (m + 16) (5 * t + k') (nI (p k' + 1)) (m + 15) (5 * t' + k) = nI (tw_up R.2.2.2.1 t k' (R.2.2.2.1 t k' + 1) t' k - p' k) ∧ tw_up I (m + 16) (5 * t + k') (nI (p k' + 1)) (m + 16) (5 * t' + k) = nI (p' k)
              rw [hR, tw_up_a (by omega), tw_up_k (by omega)]
              exact ⟨x1, x2, x3⟩
            · show _ = if R.1 t' < K t' then (if t' = t ∧ t ≠ st then tau t' + 1 else tau t') - tp_since R t' else 0
              rw [if_neg (show ¬ (t' = t ∧ t ≠ st) from fun z => et z.1)]
              exact hsum'
      by_cases e0 : tp_hind S K R wo t tick = 0
      · rw [if_pos (by rw [e0])]
        exact key 4 (by rw [if_pos e0])
      · rw [if_neg (fun z => e0 ((nI_eq (by omega) (by decide)).mp z))]
        exact key _ (by rw [if_neg e0])
    · rw [if_neg eo, if_pos rfl]
      refine ⟨I, by rw [nI_add], ?_, fun _ _ => rfl⟩
      have : tp_wait K R (fun t => tp_hind S K R wo t tick) st t = R := by unfold tp_wait; rw [if_neg (fun z => eo z.2)]
      rw [this]
      intro t' ht'
      obtain ⟨g1, g2, g3, g4, g5, g6, p, g7, g8⟩ := hG t' ht'
      refine ⟨g1, g2, g3, g4, g5, g6, p, g7, ?_⟩
      rw [g8]
      by_cases et : t' = t
      · subst et; rw [if_neg eo, if_neg eo]
      · show _ = if R.1 t' < K t' then (if t' = t ∧ t ≠ st then tau t' + 1 else tau t') - tp_since R t' else 0
        rw [if_neg (show ¬ (t' = t ∧ t ≠ st) from fun z => et z.1)]
def tp_sp (p : Nat → Nat) : Nat → Nat
  | 0 => 0
  | k + 1 => if k = 0 then 0 else tp_sp p k + p k
theorem q_beginLoop (hm : pMo sh P m) (ht : t < 2) {x3 : Nat} (hx3 : x3 < 200) (x2 x4 x5 x6 x7 : Int32) {w p : Nat → Nat} {J : Nat → Nat → Int32} (h12 : J (m + 12) x3 = nI 0) (hw : ∀ k, 1 ≤ k → k < 5 → J (m + 15) (5 * t + k) = nI (w k) ∧ J (m + 16) (5 * t + k) = nI (p k)) :
    ∃ J2, fX8_begin_l104 tw_F (n, sh, P, J) m (nI t) x2 (nI x3) x4 x5 x6 x7 (nI 1) = fX8_begin_b173 (n, sh, P, J2) m (nI t) x2 x4 x5 x6 x7 ∧ (∀ k, 1 ≤ k → k < 5 → J2 (m + 15) (5 * t + k) = nI (w k + p k) ∧ J2 (m + 16) (5 * t + k) = nI 0) ∧ (∀ j, (j < 5 * t + 1 ∨ 5 * t + 5 ≤ j) → J2 (m + 15) j = J (m + 15) j ∧ J2 (m + 16) j = J (m + 16) j) ∧ J2 (m + 12) x3 = nI (p 1 + p 2 + p 3 + p 4) ∧ (∀ j, j ≠ x3 → J2 (m + 12) j = J (m + 12) j) ∧ ∀ c, c ≠ m + 12 → c ≠ m + 15 → c ≠ m + 16 → J2 c = J c := by
  exact tp_it (S := (Nat → Nat → Int32) × Nat) (fun _ _ _ _ _ _ _ _ _ _ => none) fX8_begin_h104 (fun f s => f (n, sh, P, s.1) m (nI t) x2 (nI x3) x4 x5 x6 x7 (nI s.2))
    (fun s => 1 ≤ s.2 ∧ s.2 ≤ 5 ∧ (∀ k, 1 ≤ k → k < s.2 → s.1 (m + 15) (5 * t + k) = nI (w k + p k) ∧ s.1 (m + 16) (5 * t + k) = nI 0) ∧ (∀ j, (j < 5 * t + 1 ∨ 5 * t + s.2 ≤ j) → s.1 (m + 15) j = J (m + 15) j ∧ s.1 (m + 16) j = J (m + 16) j) ∧ s.1 (m + 12) x3 = nI (tp_sp p s.2) ∧ (∀ j, j ≠ x3 → s.1 (m + 12) j = J (m + 12) j) ∧ ∀ c, c ≠ m + 12 → c ≠ m + 15 → c ≠ m + 16 → s.1 c = J c) (fun s => 5 - s.2)
    (fun _ r => ∃ J2, r = fX8_begin_b173 (n, sh, P, J2) m (nI t) x2 x4 x5 x6 x7 ∧ (∀ k, 1 ≤ k → k < 5 → J2 (m + 15) (5 * t + k) = nI (w k + p k) ∧ J2 (m + 16) (5 * t + k) = nI 0) ∧ (∀ j, (j < 5 * t + 1 ∨ 5 * t + 5 ≤ j) → J2 (m + 15) j = J (m + 15) j ∧ J2 (m + 16) j = J (m + 16) j) ∧ J2 (m + 12) x3 = nI (p 1 + p 2 + p 3 + p 4) ∧ (∀ j, j ≠ x3 → J2 (m + 12) j = J (m + 12) j) ∧ ∀ c, c ≠ m + 12 → c ≠ m + 15 → c ≠ m + 16 → J2 c = J c)
    (by
      rintro q ⟨J', k⟩ ⟨i0, i1, i2, i3, i4, i5, i6⟩ ih
      dsimp only at i0 i1 i2 i3 i4 i5 i6 ih ⊢
      unfold fX8_begin_h104
      by_cases e : 5 ≤ k
      · rw [if_pos (show (5 : Int32) ≤ nI k from nI_le e (by omega))]
        have : k = 5 := by omega
        subst this
        refine ⟨J', rfl, fun k h1 h2 => i2 k h1 h2, fun j hj => i3 j hj, ?_, i5, i6⟩
        rw [i4]
        congr 1
        simp [tp_sp]
      · rw [if_neg (show ¬ (5 : Int32) ≤ nI k from nI_ge (show k < 5 by omega) (by decide)), tp_1, tp_0, show (5 : Int32) = nI 5 from rfl]
        obtain ⟨y1, y2⟩ := i3 (5 * t + k) (by omega)
        obtain ⟨z1, z2⟩ := hw k (by omega) (by omega)
        rw [z1] at y1
        rw [z2] at y2
        have y2' : tw_up J' (m + 15) (5 * t + k) (nI (w k + p k)) (m + 16) (5 * t + k) = nI (p k) := by rw [tw_up_a (by omega)]; exact y2
        have y3' : tw_up J' (m + 15) (5 * t + k) (nI (w k + p k)) (m + 12) x3 = nI (tp_sp p k) := by rw [tw_up_a (by omega)]; exact i4
        rw [q_P19 hm, Option.bind_some, pk_mul, nI_add, q_a15 hm (by omega), Option.bind_some, q_P20 hm, Option.bind_some, q_a16 hm (by omega), Option.bind_some, y1, y2, nI_add, q_w15 hm (by omega), Option.bind_some, q_P16 hm, Option.bind_some, q_a12 hm hx3, Option.bind_some, q_P20 hm, Option.bind_some, q_a16 hm (by omega), Option.bind_some, y2', y3', nI_add, q_w12 hm hx3, Option.bind_some, q_P20 hm, Option.bind_some, q_w16 hm (by omega), Option.bind_some, nI_add]
        refine ih (tw_up (tw_up (tw_up J' (m + 15) (5 * t + k) (nI (w k + p k))) (m + 12) x3 (nI (tp_sp p k + p k))) (m + 16) (5 * t + k) (nI 0), k + 1) ⟨by dsimp only; omega, by dsimp only; omega, fun k' h1 h2 => ?_, fun j hj => ?_, ?_, fun j hj => ?_, fun c c1 c2 c3 => ?_⟩ (by dsimp only; omega)
        · dsimp only at h2 ⊢
          rw [tw_up_a (by omega), tw_up_a (by omega)]
          by_cases e2 : k' = k
          · rw [e2, tw_up_at, tw_up_at]; exact ⟨rfl, rfl⟩
          · rw [tw_up_k (by omega), tw_up_k (by omega), tw_up_a (by omega), tw_up_a (by omega)]
            exact i2 k' h1 (by omega)
        · dsimp only at hj ⊢
          rw [tw_up_a (by omega), tw_up_a (by omega), tw_up_k (by omega), tw_up_k (by omega), tw_up_a (by omega), tw_up_a (by omega)]
          exact i3 j (by omega)
        · dsimp only
          rw [tw_up_a (by omega), tw_up_at]
          unfold tp_sp
          rw [if_neg (by omega)]
          cases k with
          | zero => omega
          | succ k => rfl
        · dsimp only
          rw [tw_up_a (by omega), tw_up_k hj, tw_up_a (by omega)]; exact i5 j hj
        · dsimp only
          rw [tw_up_a c3, tw_up_a c1, tw_up_a c2]; exact i6 c c1 c2 c3) tw_F (J, 1) ⟨Nat.le_refl _, by dsimp only; omega, fun k h1 h2 => absurd h2 (by dsimp only; omega), fun j hj => ⟨rfl, rfl⟩, h12, fun _ _ => rfl, fun _ _ _ _ => rfl⟩ (tw_F_big (by dsimp only; omega))
end TPW
