/-! Pure rows: how the store's words act where the kinds are known. -/
theorem tp_lit (n : Nat) : (OfNat.ofNat n : Int32) = nI n := rfl
theorem tp_nn {n : Nat} (h : n < 2 ^ 31) : (nI n < nI 0) = False := by
  rw [nI_ltI h (by decide)]; simp
theorem tp_m6 {n : Nat} (h : n < 2 ^ 31) : (nI n = -nI 6) = False := by
  refine eq_false (fun e => ?_)
  have h1 := congrArg Int32.toInt e
  rw [nI_toInt h, show (-nI 6).toInt = -6 by decide] at h1
  omega
theorem tp_m6n : (-nI 6 < nI 0) = True := eq_true (by decide)
section TPT
variable {n : Nat} {sh : tw_Sh} {P : Nat → Nat → Option Nat} {I : Nat → Nat → Int32} {a t k j : Nat}
theorem e_is (h : sh a = some (t, k)) : tw_is (n, sh, P, I) t a = some () := by simp [tw_is, h]
theorem e_gI (h : sh a = some (t, k)) : tw_gI (n, sh, P, I) t a j = some (I a j) := by simp [tw_gI, h]
theorem e_gP (h : sh a = some (t, k)) : tw_gP (n, sh, P, I) t a j = P a j := by simp [tw_gP, h]
theorem e_aI (h : sh a = some (t, k)) (hj : j < k) (hk : k < 2 ^ 31) : tw_aI (n, sh, P, I) t a (nI j) = some (I a j) := by
  have h1 : ¬ nI j < 0 := nI_pos (by omega)
  simp [tw_aI, h, h1, nI_clamp (show j < 2 ^ 31 by omega), hj]
theorem e_aP (h : sh a = some (t, k)) (hj : j < k) (hk : k < 2 ^ 31) : tw_aP (n, sh, P, I) t a (nI j) = P a j := by
  have h1 : ¬ nI j < 0 := nI_pos (by omega)
  simp [tw_aP, h, h1, nI_clamp (show j < 2 ^ 31 by omega), hj]
theorem e_pI {x : Int32} (h : sh a = some (t, k)) : tw_pI (n, sh, P, I) t a j x = some (n, sh, P, tw_up I a j x) := by simp [tw_pI, h, tw_sI]
theorem e_wI {x : Int32} (h : sh a = some (t, k)) (hj : j < k) (hk : k < 2 ^ 31) : tw_wI (n, sh, P, I) t a (nI j) x = some (n, sh, P, tw_up I a j x) := by
  have h1 : ¬ nI j < 0 := nI_pos (by omega)
  simp [tw_wI, h, h1, nI_clamp (show j < 2 ^ 31 by omega), hj, tw_sI]
theorem e_wP {x tv m : Nat} (h : sh a = some (t, k)) (hx : sh x = some (tv, m)) (hj : j < k) (hk : k < 2 ^ 31) : tw_wP (n, sh, P, I) t tv a (nI j) x = some (n, sh, tw_up P a j (some x), I) := by
  have h1 : ¬ nI j < 0 := nI_pos (by omega)
  simp [tw_wP, h, hx, h1, nI_clamp (show j < 2 ^ 31 by omega), hj, tw_sP]
/-- rows of memory copied whole -/
def tp_cp (I : Nat → Nat → Int32) (b a m : Nat) : Nat → Nat → Int32 := fun c => if c = a then (fun j => if j < m then I b j else I a j) else I c
theorem e_cp {b kb m : Nat} (hb : sh b = some (20, kb)) (ha : sh a = some (20, k)) (h1 : m ≤ kb) (h2 : m ≤ k) (h3 : m < 2 ^ 31) : tw_cp (n, sh, P, I) b (nI 0) a (nI 0) (nI m) = some (n, sh, P, tp_cp I b a m) := by
  have g1 : ¬ nI 0 < 0 := nI_pos (by decide)
  have g2 : ¬ nI m < 0 := nI_pos h3
  simp only [tw_cp, hb, ha, nI_clamp h3, nI_clamp (show 0 < 2 ^ 31 by decide)]
  rw [if_pos ⟨trivial, trivial, g1, g1, g2, by omega, by omega⟩]
  refine congrArg (fun z => some (n, sh, P, z)) (funext fun c => ?_)
  unfold tp_cp tw_cpI
  by_cases e : c = a
  · rw [if_pos e, if_pos e]
    funext j
    simp
  · rw [if_neg e, if_neg e]
end TPT
theorem tw_up_at {α : Type} {f : Nat → Nat → α} {a k : Nat} {x : α} : tw_up f a k x a k = x := by simp [tw_up]
theorem tw_up_k {α : Type} {f : Nat → Nat → α} {a k : Nat} {x : α} {b j : Nat} (h : j ≠ k) : tw_up f a k x b j = f b j := by simp [tw_up, h]
theorem tw_up_a {α : Type} {f : Nat → Nat → α} {a k : Nat} {x : α} {b : Nat} (h : b ≠ a) : tw_up f a k x b = f b := by funext j; simp [tw_up, h]
theorem tp_cp_a {I : Nat → Nat → Int32} {b a m c : Nat} (h : c ≠ a) : tp_cp I b a m c = I c := by simp [tp_cp, h]
theorem tp_cp_in {I : Nat → Nat → Int32} {b a m j : Nat} (h : j < m) : tp_cp I b a m a j = I b j := by simp [tp_cp, h]
/-- loops: what a header gives as soon as it gives it for all smaller states -/
theorem tp_it {F S α : Type} (z : F) (B : F → F) (ap : F → S → α) (Inv : S → Prop) (μ : S → Nat) (Q : S → α → Prop) (hs : ∀ k s, Inv s → (∀ s', Inv s' → μ s' < μ s → Q s' (ap k s')) → Q s (ap (B k) s)) : ∀ n s, Inv s → μ s < n → Q s (ap (tw_it z B n) s) := by
  intro n
  induction n with
  | zero => intro s _ h; exact absurd h (Nat.not_lt_zero _)
  | succ n ih =>
    intro s hI hm
    exact hs (tw_it z B n) s hI (fun s' hI' hlt => ih s' hI' (by omega))
theorem tw_F_big {m : Nat} (h : m < 100000) : m < tw_F := h
/-- whole numbers on the machine's remainder -/
theorem tp_rem {a d : Nat} (ha : a < 2 ^ 31) (h0 : 0 < d) (hd : d < 2 ^ 31) : nI a - nI a / nI d * nI d = nI (a % d) := pk_rem ha h0 hd
theorem tp_xor (a b : Nat) : nI a ^^^ nI b = nI (a ^^^ b) := by
  apply Int32.toBitVec_inj.1
  show BitVec.ofNat 32 a ^^^ BitVec.ofNat 32 b = BitVec.ofNat 32 (a ^^^ b)
  apply BitVec.eq_of_getLsbD_eq
  intro i hi
  simp [hi]
theorem tp_mod (σ : tw_St) {a d : Nat} (ha : a < 2 ^ 31) (h0 : 0 < d) (hd : d < 2 ^ 31) : fJ9_floorMod σ (nI a) (nI d) = some (nI (a % d)) := by
  have h1 : ¬ nI d = 0 := nI_ne0 h0 hd
  have hx : (0 : Int32) ≤ nI a ^^^ nI d := by
    rw [tp_xor]
    exact nI_pos' (Nat.xor_lt_two_pow ha hd)
  unfold fJ9_floorMod
  rw [if_neg h1, tp_rem ha h0 hd, if_pos hx]
theorem tp_neg1000 : ∀ d, d < 999 → (¬ 0 ≤ ((-nI (d + 1)) ^^^ nI 1000)) ∧ (-nI (d + 1) - (-nI (d + 1)) / nI 1000 * nI 1000 = -nI (d + 1)) ∧ ¬ (-nI (d + 1) = 0) ∧ -nI (d + 1) + nI 1000 = nI (999 - d) := by decide +kernel
theorem tp_subneg {a b : Nat} (h : a ≤ b) : nI a - nI b = -nI (b - a) := by
  have : nI b = nI (b - a) + nI a := by rw [nI_add]; congr 1; omega
  rw [this, Int32.sub_eq_add_neg, Int32.neg_add, Int32.add_comm, Int32.sub_add_cancel]
theorem tp_modsub (σ : tw_St) {a b : Nat} (ha : a < 1000) (hb : b < 1000) : fJ9_floorMod σ (nI a - nI b) (nI 1000) = some (nI ((a + 1000 - b) % 1000)) := by
  by_cases h : b ≤ a
  · rw [pk_sub h, tp_mod σ (by omega) (by decide) (by decide)]
    congr 2
    omega
  · rw [tp_subneg (by omega)]
    obtain ⟨h1, h2, h3, h4⟩ := tp_neg1000 (b - a - 1) (by omega)
    rw [show b - a - 1 + 1 = b - a by omega] at h1 h2 h3 h4
    unfold fJ9_floorMod
    rw [if_neg (nI_ne0 (by decide) (by decide)), if_neg h1, h2, if_neg h3, h4]
    congr 2
    omega
theorem tp_sub1000 {a b : Nat} (hb : b < 1000) : nI a - nI b + nI 1000 = nI (a + 1000 - b) := by
  rw [← pk_sub (show b ≤ a + 1000 by omega), ← nI_add, Int32.sub_eq_add_neg, Int32.sub_eq_add_neg, Int32.add_assoc, Int32.add_comm (-nI b), ← Int32.add_assoc]
theorem tp_max (σ : tw_St) {a b : Nat} (ha : a < 2 ^ 31) (hb : b < 2 ^ 31) : fJ9_max σ (nI a) (nI b) = some (nI (if a < b then b else a)) := by
  unfold fJ9_max
  by_cases h : a < b
  · rw [if_pos (nI_lt h hb), if_pos h]
  · rw [if_neg (nI_nlt (Nat.not_lt.mp h) ha), if_neg h]
/-- a program: at most twelve orders of five numbers -/
def pPr (sh : tw_Sh) (P : Nat → Nat → Option Nat) (a : Nat) : Prop := sh a = some (3, 2) ∧ P a 1 = some (a + 1) ∧ sh (a + 1) = some (20, 60)
theorem p_told {n : Nat} {sh : tw_Sh} {P : Nat → Nat → Option Nat} {I : Nat → Nat → Int32} {a z o c : Nat} (h : pPr sh P a) (hz : I a 0 = nI z) (h12 : z ≤ 12) (ho : o < z) (hc : c < 5) : fX3_told (n, sh, P, I) a (nI o) (nI c) = some (I (a + 1) (o * 5 + c)) := by
  obtain ⟨h1, h2, h3⟩ := h
  unfold fX3_told
  simp (disch := omega) only [e_is h1, e_gI h1, e_gP h1, h2, hz, e_aI h3, tp_lit, nI_add, pk_mul, nI_ltI, nI_leI, nI_eq, nI_clamp, tp_nn, pk_sub, tp_m6, tp_m6n, if_pos, if_neg, Option.bind_some, Option.map_some]
/-- what an order is -/
def pOrd (o : Nat → Int32) : Prop := (∃ r v, r < 4 ∧ v < 100 ∧ o 0 = nI 0 ∧ o 1 = nI r ∧ o 2 = -nI 6 ∧ o 3 = -nI 6 ∧ o 4 = nI v) ∨ (∃ k r x y, (k = 1 ∨ k = 2 ∨ k = 3) ∧ r < 4 ∧ x < 4 ∧ y < 4 ∧ o 0 = nI k ∧ o 1 = nI r ∧ o 2 = nI x ∧ o 3 = nI y ∧ o 4 = -nI 6) ∨ (∃ k r x, (k = 4 ∨ k = 5) ∧ r < 4 ∧ x < 4 ∧ o 0 = nI k ∧ o 1 = nI r ∧ o 2 = nI x ∧ o 3 = -nI 6 ∧ o 4 = -nI 6) ∨ (∃ r v, r < 4 ∧ v < 100 ∧ o 0 = nI 6 ∧ o 1 = nI r ∧ o 2 = -nI 6 ∧ o 3 = -nI 6 ∧ o 4 = nI v)
theorem pOrd.kind {o : Nat → Int32} (h : pOrd o) : ∃ k, k < 7 ∧ o 0 = nI k := by
  rcases h with ⟨r, v, h⟩ | ⟨k, r, x, y, h⟩ | ⟨k, r, x, h⟩ | ⟨r, v, h⟩
  · exact ⟨0, by decide, h.2.2.1⟩
  · exact ⟨k, by omega, h.2.2.2.2.1⟩
  · exact ⟨k, by omega, h.2.2.2.1⟩
  · exact ⟨6, by decide, h.2.2.1⟩
/-- the room of a kind: 0, 1, or 2 for none -/
def tp_room (k : Int32) : Nat := if k = nI 3 then 0 else if k = nI 4 then 1 else if k = nI 5 then 1 else 2
def tp_rI (r : Nat) : Int32 := if r = 2 then -nI 6 else nI r
section TPP
variable {n : Nat} {sh : tw_Sh} {P : Nat → Nat → Option Nat} {I : Nat → Nat → Int32} {a z o c : Nat}
theorem p_roomOf (h : pPr sh P a) (hz : I a 0 = nI z) (h12 : z ≤ 12) (ho : o < z) : fX3_roomOf (n, sh, P, I) a (nI o) = some (tp_rI (tp_room (I (a + 1) (o * 5)))) := by
  unfold fX3_roomOf
  have := p_told (n := n) (c := 0) h hz h12 ho (by decide)
  simp only [e_is h.1, tp_lit, this, Option.bind_some, Nat.add_zero]
  unfold tp_room tp_rI
  by_cases h3 : I (a + 1) (o * 5) = nI 3
  · simp [h3]
  · by_cases h4 : I (a + 1) (o * 5) = nI 4
    · simp [h3, h4]; rfl
    · by_cases h5 : I (a + 1) (o * 5) = nI 5
      · simp [h3, h4, h5]; rfl
      · simp [h3, h4, h5]
theorem p_givenBy (h : pPr sh P a) (hz : I a 0 = nI z) (h12 : z ≤ 12) (ho : o < z) : fX3_givenBy (n, sh, P, I) a (nI o) = some (if I (a + 1) (o * 5) = nI 5 ∨ I (a + 1) (o * 5) = nI 6 then -nI 6 else I (a + 1) (o * 5 + 1)) := by
  unfold fX3_givenBy
  have h0 := p_told (n := n) (c := 0) h hz h12 ho (by decide)
  have h1 := p_told (n := n) (c := 1) h hz h12 ho (by decide)
  simp only [e_is h.1, tp_lit, h0, h1, Option.bind_some, Nat.add_zero]
  unfold fX3_givenBy_b18
  by_cases h5 : I (a + 1) (o * 5) = nI 5
  · simp [h5]; rfl
  · by_cases h6 : I (a + 1) (o * 5) = nI 6
    · simp [h5, h6]; rfl
    · simp [h5, h6]
theorem p_copyFrom {b : Nat} (h : pPr sh P a) (hb : pPr sh P b) (hne : a ≠ b + 1) : fX3_copyFrom (n, sh, P, I) a b = some (n, sh, P, tp_cp (tw_up I a 0 (I b 0)) (b + 1) (a + 1) 60) := by
  unfold fX3_copyFrom
  simp (disch := omega) only [e_is h.1, e_gI hb.1, e_pI h.1, e_gP hb.1, e_gP h.1, h.2.1, hb.2.1, tp_lit, e_cp hb.2.2 h.2.2, Option.bind_some]
end TPP
