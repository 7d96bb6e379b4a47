section TPJ
variable {n : Nat} {sh : tw_Sh} {P : Nat → Nat → Option Nat} {I : Nat → Nat → Int32} {m L : Nat} {T : Nat → Nat}
theorem tp_cc_0 (w k : Nat) : tp_cc 0 w k = if w = 0 then k else 0 := rfl
/-- the characters are laid behind the text -/
theorem q_put85 (hm : pMo sh P m) (hT : pMT I m T L) {y : Int64} {q : Nat} (hq : q ≤ 8) (hL : L + q ≤ 80) (h0 : q ≠ 0) : ∃ I', fX8_put_l85 tw_F (n, sh, P, I) m (nI q) y (nI q - nI 1) = some (nI (L + q), (n, sh, P, I')) ∧ pMT I' m (tp_app T L (tp_lw y) q) (L + q) ∧ (∀ c, c ≠ m → c ≠ m + 5 → I' c = I c) ∧ ∀ k, k ≠ 6 → I' m k = I m k := by
  exact tp_it (S := (Nat → Nat → Int32) × Nat × Int64) (fun _ _ _ _ _ => none) fX8_put_h85 (fun f s => f (n, sh, P, s.1) m (nI q) s.2.2 (nI s.2.1 - nI 1))
    (fun s => s.2.1 ≤ q ∧ tp_lw s.2.2 = tp_lw y / 256 ^ (q - s.2.1) ∧ s.1 m = I m ∧ (∀ j, j < L → s.1 (m + 5) j = nI (T j)) ∧ (∀ j, s.2.1 ≤ j → j < q → s.1 (m + 5) (L + j) = nI (tp_lw y / 256 ^ (q - 1 - j) % 256)) ∧ ∀ c, c ≠ m + 5 → s.1 c = I c) (fun s => s.2.1)
    (fun _ r => ∃ I', r = some (nI (L + q), (n, sh, P, I')) ∧ pMT I' m (tp_app T L (tp_lw y) q) (L + q) ∧ (∀ c, c ≠ m → c ≠ m + 5 → I' c = I c) ∧ ∀ k, k ≠ 6 → I' m k = I m k)
    (by
      rintro k ⟨J, b, z⟩ ⟨i1, i2, i3, i4, i5, i6⟩ ih
      dsimp only at i1 i2 i3 i4 i5 i6 ih ⊢
      unfold fX8_put_h85 fX8_put_b122
      match b with
      | 0 =>
        rw [if_pos (by decide), q_gI hm, Option.bind_some, q_pI hm, Option.bind_some, q_gI hm, Option.bind_some, tw_up_at, i3, hT.2, nI_add]
        refine ⟨_, rfl, ⟨fun j hj => ?_, tw_up_at⟩, fun c c1 c2 => by rw [tw_up_a c1]; exact i6 c c2, fun k hk => by rw [tw_up_k hk, i3]⟩
        rw [tw_up_a (by omega)]
        unfold tp_app
        by_cases e : j < L
        · rw [if_pos e]; exact i4 j e
        · rw [if_neg e]
          have := i5 (j - L) (Nat.zero_le _) (by omega)
          rw [show L + (j - L) = j by omega] at this
          exact this
      | b + 1 =>
        obtain ⟨b1, b2, b3, b4, b5, b6⟩ := tp_byte0 (tp_lw z % 256) (by omega)
        rw [pk_sub (by omega), Nat.add_sub_cancel, if_neg (show ¬ nI b < 0 from nI_neg (by omega)), q_P5 hm, Option.bind_some, q_gI hm, Option.bind_some, i3, hT.2, nI_add, q_w5 hm (by omega), Option.bind_some, tp_lw_and, b4, tp_1, ← Int32.sub_eq_add_neg]
        have hih := ih (tw_up J (m + 5) (L + b) (nI (tp_lw z % 256)), b, (z.toUInt64 >>> ((8 : Int32).toInt64.toUInt64 &&& Int64.toUInt64 63)).toInt64) ⟨by dsimp only; omega, ?_, ?_, fun j hj => ?_, fun j h1 h2 => ?_, fun c hc => ?_⟩ (by dsimp only; omega)
        · exact hih
        · dsimp only
          rw [tp_lw_next, i2, Nat.div_div_eq_div_mul, ← Nat.pow_succ, show (q - (b + 1)).succ = q - b by omega]
        · dsimp only
          rw [tw_up_a (by omega)]; exact i3
        · dsimp only
          rw [tw_up_k (by omega)]; exact i4 j hj
        · dsimp only at h1 ⊢
          by_cases e : j = b
          · rw [e, tw_up_at, i2, show q - (b + 1) = q - 1 - b by omega]
          · rw [tw_up_k (by omega)]; exact i5 j (by omega) h2
        · dsimp only
          rw [tw_up_a hc]; exact i6 c hc) tw_F (I, q, y) ⟨Nat.le_refl _, by dsimp only; rw [Nat.sub_self, Nat.pow_zero, Nat.div_one], rfl, hT.1, fun j h1 h2 => absurd h2 (by dsimp only at h1; omega), fun _ _ => rfl⟩ (tw_F_big (by dsimp only; omega))
end TPJ
