/-! Characters in a long. -/
def tp_lw (y : Int64) : Nat := y.toUInt64.toNat
theorem tp_lw_inj {x y : Int64} (h : tp_lw x = tp_lw y) : x = y := by
  have : x.toUInt64 = y.toUInt64 := UInt64.toNat_inj.mp h
  have h2 := congrArg UInt64.toInt64 this
  simpa using h2
theorem tp_lw_lt (y : Int64) : tp_lw y < 2 ^ 64 := y.toUInt64.toNat_lt
theorem tp_lw_of {v : Nat} (h : v < 2 ^ 63) : tp_lw (Int64.ofNat v) = v := by
  unfold tp_lw
  show (UInt64.ofNat v).toNat = v
  simp
  omega
theorem tp_lw_and (y : Int64) : (y &&& 255) = Int64.ofNat (tp_lw y % 256) := by
  apply tp_lw_inj
  rw [tp_lw_of (by omega)]
  unfold tp_lw
  show (y.toUInt64 &&& 255).toNat = _
  rw [UInt64.toNat_and]
  exact Nat.and_two_pow_sub_one_eq_mod y.toUInt64.toNat 8
theorem tp_lw_shr (y : Int64) (b : Nat) (hb : b < 8) : tp_lw ((y.toUInt64 >>> (UInt64.ofNat (8 * b))).toInt64) = tp_lw y / 256 ^ b := by
  unfold tp_lw
  simp only [UInt64.toUInt64_toInt64, UInt64.toNat_shiftRight]
  rw [show (UInt64.ofNat (8 * b)).toNat = 8 * b by simp; omega, Nat.mod_eq_of_lt (by omega), Nat.shiftRight_eq_div_pow, Nat.pow_mul]
theorem tp_sh8 : ((8 : Int32).toInt64.toUInt64 &&& Int64.toUInt64 63) = UInt64.ofNat (8 * 1) := by decide +kernel
theorem tp_shb : ∀ b, b < 8 → ((8 * nI b).toInt64.toUInt64 &&& Int64.toUInt64 63) = UInt64.ofNat (8 * b) := by decide +kernel
theorem tp_lw_next (y : Int64) : tp_lw ((y.toUInt64 >>> ((8 : Int32).toInt64.toUInt64 &&& Int64.toUInt64 63)).toInt64) = tp_lw y / 256 := by
  rw [tp_sh8, tp_lw_shr y 1 (by decide), Nat.pow_one]
theorem tp_cmp0 (y : Int64) : lg_cmp y 0 = 0 ↔ tp_lw y = 0 := by
  unfold lg_cmp
  constructor
  · intro h
    by_cases e : y = 0
    · rw [e]; rfl
    · split at h
      · exact absurd h (by decide)
      · first | (rw [if_neg e] at h; exact absurd h (by decide)) | exact absurd h (by decide)
  · intro h
    have : y = 0 := tp_lw_inj (h.trans rfl)
    rw [this]; decide
theorem tp_byte0 : ∀ v, v < 256 → (lg_cmp (Int64.ofNat v) 0 = 0 ↔ v = 0) ∧ (lg_cmp (Int64.ofNat v) 33 < 0 ↔ v < 33) ∧ (lg_cmp (Int64.ofNat v) 126 ≤ 0 ↔ v ≤ 126) ∧ (Int64.ofNat v).toInt32 = nI v ∧ (((Int64.ofNat v).toInt32).toUInt32 % 65536).toInt32 = nI v ∧ tw_bc (nI v) = some (nI v) := by decide +kernel
/-- how many characters, 0 where it holds none -/
def tp_cc : Nat → Nat → Nat → Nat
  | 0, w, k => if w = 0 then k else 0
  | f + 1, w, k => if w % 256 = 0 then (if w = 0 then k else 0) else if w % 256 < 33 then 0 else if w % 256 ≤ 126 then tp_cc f (w / 256) (k + 1) else 0
theorem tp_cc_in : ∀ (f w k : Nat), tp_cc f w k ≠ 0 → k ≤ tp_cc f w k ∧ tp_cc f w k ≤ k + f ∧ ∀ j, j < tp_cc f w k - k → 33 ≤ w / 256 ^ j % 256 ∧ w / 256 ^ j % 256 ≤ 126
  | 0, w, k, h => by
    unfold tp_cc at h ⊢
    by_cases e : w = 0
    · rw [if_pos e]
      exact ⟨Nat.le_refl _, Nat.le_refl _, fun j hj => by omega⟩
    · rw [if_neg e] at h; exact absurd rfl h
  | f + 1, w, k, h => by
    unfold tp_cc at h ⊢
    by_cases e : w % 256 = 0
    · rw [if_pos e] at h ⊢
      by_cases e2 : w = 0
      · rw [if_pos e2]
        exact ⟨Nat.le_refl _, by omega, fun j hj => by omega⟩
      · rw [if_neg e2] at h; exact absurd rfl h
    · rw [if_neg e] at h ⊢
      by_cases e1 : w % 256 < 33
      · rw [if_pos e1] at h; exact absurd rfl h
      · rw [if_neg e1] at h ⊢
        by_cases e2 : w % 256 ≤ 126
        · rw [if_pos e2] at h ⊢
          obtain ⟨h1, h2, h3⟩ := tp_cc_in f (w / 256) (k + 1) h
          refine ⟨by omega, by omega, fun j hj => ?_⟩
          match j with
          | 0 => rw [Nat.pow_zero, Nat.div_one]; omega
          | j + 1 =>
            have := h3 j (by omega)
            rw [Nat.div_div_eq_div_mul, ← Nat.pow_succ'] at this
            exact this
        · rw [if_neg e2] at h; exact absurd rfl h
/-- a text with n characters of w behind it -/
def tp_app (T : Nat → Nat) (L w n : Nat) : Nat → Nat := fun i => if i < L then T i else w / 256 ^ (n - 1 - (i - L)) % 256
theorem tp_app_ok {T : Nat → Nat} {L w n : Nat} (hx : pTx T L) (hn : tp_cc 8 w 0 = n) (h0 : n ≠ 0) (hL : L + n ≤ 80) : pTx (tp_app T L w n) (L + n) := by
  subst hn
  obtain ⟨h1, h2, h3⟩ := tp_cc_in 8 w 0 h0
  refine ⟨hL, fun i hi => ?_⟩
  unfold tp_app
  by_cases e : i < L
  · rw [if_pos e]; exact hx.2 i e
  · rw [if_neg e]; exact h3 _ (by omega)
section TPL
variable {n : Nat} {sh : tw_Sh} {P : Nat → Nat → Option Nat} {I : Nat → Nat → Int32} {d pd L : Nat} {T : Nat → Nat}
theorem p_charactersIn (σ : tw_St) (y : Int64) : fX1_charactersIn σ y = some (nI (tp_cc 8 (tp_lw y) 0)) := by
  have key : ∀ (f m k : Nat) (y : Int64), k + f = 8 → f < m → fX1_charactersIn_l5 m σ y (nI k) = some (nI (tp_cc f (tp_lw y) k)) := by
    intro f
    induction f with
    | zero =>
      intro m k y hk hm
      obtain ⟨m, rfl⟩ : ∃ q, m = q + 1 := ⟨m - 1, by omega⟩
      show fX1_charactersIn_h5 (fX1_charactersIn_l5 m) σ y (nI k) = _
      unfold fX1_charactersIn_h5 fX1_charactersIn_b60 tp_cc
      rw [if_pos (show (8 : Int32) ≤ nI k from nI_le (show 8 ≤ k by omega) (by omega))]
      by_cases e : tp_lw y = 0
      · rw [if_pos e, if_pos ((tp_cmp0 y).mpr e)]
      · rw [if_neg e, if_neg (fun z => e ((tp_cmp0 y).mp z))]; rfl
    | succ f ih =>
      intro m k y hk hm
      obtain ⟨m, rfl⟩ : ∃ q, m = q + 1 := ⟨m - 1, by omega⟩
      show fX1_charactersIn_h5 (fX1_charactersIn_l5 m) σ y (nI k) = _
      unfold fX1_charactersIn_h5 fX1_charactersIn_b60 tp_cc
      obtain ⟨b1, b2, b3, -, -, -⟩ := tp_byte0 (tp_lw y % 256) (by omega)
      rw [if_neg (show ¬ (8 : Int32) ≤ nI k from nI_ge (show k < 8 by omega) (by decide)), tp_lw_and]
      by_cases e : tp_lw y % 256 = 0
      · rw [if_pos (b1.mpr e), if_pos e]
        by_cases e : tp_lw y = 0
        · rw [if_pos e, if_pos ((tp_cmp0 y).mpr e)]
        · rw [if_neg e, if_neg (fun z => e ((tp_cmp0 y).mp z))]; rfl
      · rw [if_neg (fun z => e (b1.mp z)), if_neg e]
        by_cases e1 : tp_lw y % 256 < 33
        · rw [if_pos (b2.mpr e1), if_pos e1]; rfl
        · rw [if_neg (fun z => e1 (b2.mp z)), if_neg e1]
          by_cases e2 : tp_lw y % 256 ≤ 126
          · rw [if_pos (b3.mpr e2), if_pos e2, tp_1, nI_add, ih m (k + 1) _ (by omega) (by omega), tp_lw_next]
          · rw [if_neg (fun z => e2 (b3.mp z)), if_neg e2]; rfl
  exact key 8 tw_F 0 y rfl (by decide)
def pPd (sh : tw_Sh) (P : Nat → Nat → Option Nat) (pd : Nat) : Prop := sh pd = some (1, 2) ∧ P pd 1 = some (pd + 1) ∧ sh (pd + 1) = some (21, 80)
theorem p_append (hp : pPd sh P pd) (hT : pTI I pd T L) {y : Int64} {q : Nat} (hq : q ≤ 8) (hL : L + q ≤ 80) : ∃ I', fX1_append (n, sh, P, I) pd y (nI q) = some (n, sh, P, I') ∧ pTI I' pd (tp_app T L (tp_lw y) q) (L + q) ∧ ∀ c, c ≠ pd → c ≠ pd + 1 → I' c = I c := by
  obtain ⟨r1, r2, r3⟩ := hp
  have key := tp_it (S := (Nat → Nat → Int32) × Nat) (fun _ _ _ _ => none) fX1_append_h5 (fun f s => f (n, sh, P, s.1) pd y (nI s.2 - nI 1))
    (fun s => s.2 ≤ q ∧ s.1 pd 0 = nI (L + (q - s.2)) ∧ (∀ i, i < L + (q - s.2) → s.1 (pd + 1) i = nI (tp_app T L (tp_lw y) q i)) ∧ ∀ c, c ≠ pd → c ≠ pd + 1 → s.1 c = I c) (fun s => s.2)
    (fun _ r => ∃ I', r = some (n, sh, P, I') ∧ pTI I' pd (tp_app T L (tp_lw y) q) (L + q) ∧ ∀ c, c ≠ pd → c ≠ pd + 1 → I' c = I c)
    (by
      rintro m ⟨J, b⟩ ⟨i1, i2, i3, i4⟩ ih
      dsimp only at i1 i2 i3 i4 ih ⊢
      unfold fX1_append_h5
      match b with
      | 0 =>
        rw [if_pos (by decide)]
        exact ⟨J, rfl, ⟨i2, i3⟩, i4⟩
      | b + 1 =>
        obtain ⟨b1, b2, b3, b4, b5, b6⟩ := tp_byte0 (tp_lw y / 256 ^ b % 256) (by omega)
        rw [pk_sub (by omega), Nat.add_sub_cancel, if_neg (show ¬ nI b < 0 from fun z => by have := (nI_ltI (show b < 2 ^ 31 by omega) (show 0 < 2 ^ 31 by decide)).mp z; omega), tp_1, show (80 : Int32) = nI 80 from rfl, tp_shb b (by omega), tp_lw_and, tp_lw_shr y b (by omega)]
        simp (disch := omega) only [e_gI r1, i2, nI_leI, e_gP r1, r2, b5, b6, e_wI r3, tw_up_a, nI_add, e_pI r1, if_neg, Option.bind_some]
        have hih := ih (tw_up (tw_up J (pd + 1) (L + (q - (b + 1))) (nI (tp_lw y / 256 ^ b % 256))) pd 0 (nI (L + (q - (b + 1)) + 1)), b) ⟨by dsimp only; omega, ?_, fun i hi => ?_, fun c h1 h2 => ?_⟩ (by dsimp only; omega)
        · rw [← Int32.sub_eq_add_neg]
          exact hih
        · dsimp only
          rw [tw_up_at]; congr 1; omega
        · dsimp only at hi ⊢
          rw [tw_up_a (by omega)]
          by_cases e : i = L + (q - (b + 1))
          · rw [e, tw_up_at]
            unfold tp_app
            rw [if_neg (by omega), show q - 1 - (L + (q - (b + 1)) - L) = b by omega]
          · rw [tw_up_k e]; exact i3 i (by omega)
        · dsimp only
          rw [tw_up_a h1, tw_up_a h2]; exact i4 c h1 h2)
  unfold fX1_append
  rw [e_is r1, Option.bind_some, tp_1]
  exact key tw_F (I, q) ⟨Nat.le_refl _, by dsimp only; rw [hT.1]; congr 1; omega, fun i hi => by
    dsimp only at hi ⊢
    unfold tp_app
    rw [if_pos (by omega)]; exact hT.2 i (by omega), fun _ _ _ => rfl⟩ (tw_F_big (by dsimp only; omega))
end TPL
