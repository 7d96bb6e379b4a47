/-! The constructors: the store behind them, relative to the first address. The g-functions are the f-functions over lists of cells (turned by program, wip/whole/gen07a.py). -/
abbrev tr_St : Type := List (Nat × Nat × List (Nat × Nat) × List (Nat × Int32))
def tr_mk (base : Nat) (cs : tr_St) : tw_St := (base + cs.length, (fun a => if base ≤ a then (cs[a - base]?).map (fun c => (c.1, c.2.1)) else none), (fun a j => if base ≤ a then (cs[a - base]?).bind (fun c => (c.2.2.1.lookup j).map (fun x => base + x)) else none), (fun a j => if base ≤ a then ((cs[a - base]?).bind (fun c => c.2.2.2.lookup j)).getD 0 else 0))
def tr_new (cs : tr_St) (t n : Nat) : tr_St := cs ++ [(t, n, [], [])]
def tr_grid (cs : tr_St) (n k : Nat) : tr_St := cs ++ ((23, n, (List.range n).map (fun j => (j, cs.length + 1 + j)), []) :: List.replicate n (20, k, [], []))
def tr_is (cs : tr_St) (t a : Nat) : Option Unit := match cs[a]? with
  | some c => if c.1 = t then some () else none
  | none => none
def tr_gP (cs : tr_St) (t a j : Nat) : Option Nat := match cs[a]? with
  | some c => if c.1 = t then c.2.2.1.lookup j else none
  | none => none
def tr_pP (cs : tr_St) (t a j x : Nat) : Option tr_St := match cs[a]? with
  | some c => if c.1 = t then some (cs.set a (c.1, c.2.1, (j, x) :: c.2.2.1, c.2.2.2)) else none
  | none => none
def tr_wP (cs : tr_St) (t tv a : Nat) (i : Int32) (x : Nat) : Option tr_St := match cs[a]?, cs[x]? with
  | some c, some z => if c.1 = t ∧ z.1 = tv ∧ ¬ i < 0 ∧ i.toNatClampNeg < c.2.1 then some (cs.set a (c.1, c.2.1, (i.toNatClampNeg, x) :: c.2.2.1, c.2.2.2)) else none
  | _, _ => none
def tr_wI (cs : tr_St) (t a : Nat) (i x : Int32) : Option tr_St := match cs[a]? with
  | some c => if c.1 = t ∧ ¬ i < 0 ∧ i.toNatClampNeg < c.2.1 then some (cs.set a (c.1, c.2.1, c.2.2.1, (i.toNatClampNeg, x) :: c.2.2.2)) else none
  | none => none
theorem tr_len_mk (base : Nat) (cs : tr_St) : (tr_mk base cs).1 = base + cs.length := rfl
theorem tr_sh_mk (base : Nat) (cs : tr_St) (k : Nat) : (tr_mk base cs).2.1 (base + k) = (cs[k]?).map (fun c => (c.1, c.2.1)) := by
  simp [tr_mk]
theorem tr_P_mk (base : Nat) (cs : tr_St) (k j : Nat) : (tr_mk base cs).2.2.1 (base + k) j = (cs[k]?).bind (fun c => (c.2.2.1.lookup j).map (fun x => base + x)) := by
  simp [tr_mk]
theorem tr_I_mk (base : Nat) (cs : tr_St) (k j : Nat) : (tr_mk base cs).2.2.2 (base + k) j = ((cs[k]?).bind (fun c => c.2.2.2.lookup j)).getD 0 := by
  simp [tr_mk]
theorem tr_new_mk (base : Nat) (cs : tr_St) (t n : Nat) : tw_new (tr_mk base cs) t n = tr_mk base (tr_new cs t n) := by
  unfold tw_new tr_mk tr_new
  refine Prod.ext ?_ (Prod.ext ?_ (Prod.ext ?_ ?_))
  · simp [Nat.add_assoc]
  · funext a
    by_cases h : a = base + cs.length
    · subst h; simp
    · by_cases h2 : base ≤ a
      · by_cases h3 : a - base < cs.length
        · simp [h, h2, List.getElem?_append_left h3]
        · have h4 : cs.length < a - base := by omega
          simp [h, h2, List.getElem?_append_right (Nat.le_of_lt h4), List.getElem?_eq_none (Nat.le_of_lt h4)]
          rw [List.getElem?_eq_none (by simp; omega)]
          rfl
      · simp [h, h2]
  · funext a j
    by_cases h : a = base + cs.length
    · subst h; simp
    · by_cases h2 : base ≤ a
      · by_cases h3 : a - base < cs.length
        · simp [h, h2, List.getElem?_append_left h3]
        · have h4 : cs.length < a - base := by omega
          simp [h, h2, List.getElem?_append_right (Nat.le_of_lt h4), List.getElem?_eq_none (Nat.le_of_lt h4)]
          rw [List.getElem?_eq_none (by simp; omega)]
          rfl
      · simp [h, h2]
  · funext a j
    by_cases h : a = base + cs.length
    · subst h; simp
    · by_cases h2 : base ≤ a
      · by_cases h3 : a - base < cs.length
        · simp [h, h2, List.getElem?_append_left h3]
        · have h4 : cs.length < a - base := by omega
          simp [h, h2, List.getElem?_append_right (Nat.le_of_lt h4), List.getElem?_eq_none (Nat.le_of_lt h4)]
          rw [List.getElem?_eq_none (by simp; omega)]
          rfl
      · simp [h, h2]
theorem tr_grid_at (cs : tr_St) (n k a : Nat) : (tr_grid cs n k)[a]? = if a < cs.length then cs[a]? else if a = cs.length then some (23, n, (List.range n).map (fun j => (j, cs.length + 1 + j)), []) else if a < cs.length + 1 + n then some (20, k, [], []) else none := by
  unfold tr_grid
  by_cases h : a < cs.length
  · rw [List.getElem?_append_left h, if_pos h]
  · rw [List.getElem?_append_right (by omega), if_neg h]
    by_cases h2 : a = cs.length
    · subst h2; simp
    · rw [if_neg h2, show a - cs.length = (a - cs.length - 1) + 1 by omega, List.getElem?_cons_succ]
      by_cases h3 : a < cs.length + 1 + n
      · rw [if_pos h3, List.getElem?_replicate_of_lt (by omega)]
      · rw [if_neg h3, List.getElem?_eq_none (by simp; omega)]
theorem tr_lookup (n o j : Nat) : ∀ i, ((List.range' i n).map (fun j => (j, o + j))).lookup j = if i ≤ j ∧ j < i + n then some (o + j) else none := by
  induction n with
  | zero => intro i; rw [if_neg (by omega)]; rfl
  | succ n ih =>
    intro i
    rw [List.range'_succ, List.map_cons, List.lookup_cons, ih]
    by_cases h : j = i
    · subst h; simp
    · have : (j == i) = false := by simp [h]
      rw [this]
      by_cases h2 : i + 1 ≤ j ∧ j < i + 1 + n
      · rw [if_pos h2, if_pos (by omega)]
      · rw [if_neg h2, if_neg (by omega)]
theorem tr_grid_mk (base : Nat) (cs : tr_St) (n k : Nat) : tw_grid (tr_mk base cs) n k = tr_mk base (tr_grid cs n k) := by
  have hlen : (tr_grid cs n k).length = cs.length + 1 + n := by simp [tr_grid]; omega
  refine Prod.ext ?_ (Prod.ext ?_ (Prod.ext ?_ ?_))
  · show base + cs.length + 1 + n = base + (tr_grid cs n k).length
    rw [hlen]; omega
  · funext a
    show (if a = base + cs.length then some (23, n) else if base + cs.length < a ∧ a < base + cs.length + 1 + n then some (20, k) else if base ≤ a then (cs[a - base]?).map (fun c => (c.1, c.2.1)) else none) = (if base ≤ a then ((tr_grid cs n k)[a - base]?).map (fun c => (c.1, c.2.1)) else none)
    rw [tr_grid_at]
    by_cases h2 : base ≤ a
    · simp only [if_pos h2]
      by_cases h : a = base + cs.length
      · rw [if_pos h, if_neg (by omega), if_pos (by omega)]; rfl
      · rw [if_neg h]
        by_cases h3 : base + cs.length < a ∧ a < base + cs.length + 1 + n
        · rw [if_pos h3, if_neg (by omega), if_neg (by omega), if_pos (by omega)]; rfl
        · rw [if_neg h3]
          by_cases h4 : a - base < cs.length
          · rw [if_pos h4]
          · rw [if_neg h4, if_neg (by omega), if_neg (by omega), List.getElem?_eq_none (by omega)]
    · simp only [if_neg h2]
      rw [if_neg (by omega), if_neg (by omega)]
  · funext a j
    show (if a = base + cs.length then fun j => if j < n then some (base + cs.length + 1 + j) else none else if base + cs.length < a ∧ a < base + cs.length + 1 + n then fun _ => none else (tr_mk base cs).2.2.1 a) j = (if base ≤ a then ((tr_grid cs n k)[a - base]?).bind (fun c => (c.2.2.1.lookup j).map (fun x => base + x)) else none)
    rw [tr_grid_at]
    by_cases h2 : base ≤ a
    · simp only [if_pos h2]
      by_cases h : a = base + cs.length
      · rw [if_pos h, if_neg (show ¬ a - base < cs.length by omega), if_pos (show a - base = cs.length by omega)]
        have := tr_lookup n (cs.length + 1) j 0
        rw [← List.range_eq_range'] at this
        simp only [Option.bind_some, this]
        by_cases h5 : j < n
        · simp [h5]; omega
        · simp [h5]
      · rw [if_neg h]
        by_cases h3 : base + cs.length < a ∧ a < base + cs.length + 1 + n
        · rw [if_pos h3, if_neg (by omega), if_neg (by omega), if_pos (by omega)]; rfl
        · rw [if_neg h3]
          by_cases h4 : a - base < cs.length
          · rw [if_pos h4]; simp [tr_mk, h2]
          · rw [if_neg h4, if_neg (by omega), if_neg (by omega)]
            simp [tr_mk, h2, List.getElem?_eq_none (Nat.not_lt.mp h4)]
    · simp only [if_neg h2]
      rw [if_neg (by omega), if_neg (by omega)]
      simp [tr_mk, h2]
  · funext a j
    show (if base + cs.length ≤ a ∧ a < base + cs.length + 1 + n then fun _ => 0 else (tr_mk base cs).2.2.2 a) j = (if base ≤ a then (((tr_grid cs n k)[a - base]?).bind (fun c => c.2.2.2.lookup j)).getD 0 else 0)
    rw [tr_grid_at]
    by_cases h2 : base ≤ a
    · simp only [if_pos h2]
      by_cases h3 : base + cs.length ≤ a ∧ a < base + cs.length + 1 + n
      · rw [if_pos h3, if_neg (by omega)]
        by_cases h : a = base + cs.length
        · rw [if_pos (by omega)]; rfl
        · rw [if_neg (by omega), if_pos (by omega)]; rfl
      · rw [if_neg h3]
        by_cases h4 : a - base < cs.length
        · rw [if_pos h4]; simp [tr_mk, h2]
        · rw [if_neg h4, if_neg (by omega), if_neg (by omega)]
          simp [tr_mk, h2, List.getElem?_eq_none (Nat.not_lt.mp h4)]
    · simp only [if_neg h2]
      rw [if_neg (by omega)]
      simp [tr_mk, h2]
theorem tr_is_mk (base : Nat) (cs : tr_St) (t a : Nat) : tw_is (tr_mk base cs) t (base + a) = tr_is cs t a := by
  unfold tw_is tr_is
  rw [tr_sh_mk]
  cases cs[a]? <;> rfl
theorem tr_gP_mk (base : Nat) (cs : tr_St) (t a j : Nat) : tw_gP (tr_mk base cs) t (base + a) j = (tr_gP cs t a j).map (fun x => base + x) := by
  unfold tw_gP tr_gP
  rw [tr_sh_mk, tr_P_mk]
  cases h : cs[a]? with
  | none => rfl
  | some c =>
    simp only [Option.map_some, Option.bind_some]
    split <;> rfl
theorem tr_set_mk (base : Nat) (cs : tr_St) (a : Nat) (c d : Nat × Nat × List (Nat × Nat) × List (Nat × Int32)) (hc : cs[a]? = some c) (h1 : d.1 = c.1) (h2 : d.2.1 = c.2.1) : tr_mk base (cs.set a d) = ((tr_mk base cs).1, (tr_mk base cs).2.1, (fun b j => if b = base + a then (d.2.2.1.lookup j).map (fun x => base + x) else (tr_mk base cs).2.2.1 b j), (fun b j => if b = base + a then (d.2.2.2.lookup j).getD 0 else (tr_mk base cs).2.2.2 b j)) := by
  have hl : a < cs.length := (List.getElem?_eq_some_iff.mp hc).1
  unfold tr_mk
  refine Prod.ext ?_ (Prod.ext ?_ (Prod.ext ?_ ?_))
  · simp
  · funext b
    by_cases hb : base ≤ b
    · by_cases e : b - base = a
      · subst e
        simp only [if_pos hb, List.getElem?_set_self hl, hc, Option.map_some, h1, h2]
      · simp only [if_pos hb, List.getElem?_set_ne (Ne.symm e)]
    · simp only [if_neg hb]
  · funext b j
    by_cases hb : base ≤ b
    · by_cases e : b - base = a
      · subst e
        simp only [if_pos hb, List.getElem?_set_self hl, Option.bind_some]
        rw [if_pos (by omega)]
      · simp only [if_pos hb, List.getElem?_set_ne (Ne.symm e)]
        rw [if_neg (by omega)]
    · simp only [if_neg hb]
      rw [if_neg (by omega)]
  · funext b j
    by_cases hb : base ≤ b
    · by_cases e : b - base = a
      · subst e
        simp only [if_pos hb, List.getElem?_set_self hl, Option.bind_some]
        rw [if_pos (by omega)]
      · simp only [if_pos hb, List.getElem?_set_ne (Ne.symm e)]
        rw [if_neg (by omega)]
    · simp only [if_neg hb]
      rw [if_neg (by omega)]
theorem tr_putP (base : Nat) (cs : tr_St) (a j x : Nat) (c : Nat × Nat × List (Nat × Nat) × List (Nat × Int32)) (hc : cs[a]? = some c) : tw_sP (tr_mk base cs) (base + a) j (some (base + x)) = tr_mk base (cs.set a (c.1, c.2.1, (j, x) :: c.2.2.1, c.2.2.2)) := by
  rw [tr_set_mk base cs a c (c.1, c.2.1, (j, x) :: c.2.2.1, c.2.2.2) hc rfl rfl]
  refine Prod.ext rfl (Prod.ext rfl (Prod.ext ?_ ?_))
  · funext b i
    show (if b = base + a ∧ i = j then some (base + x) else (tr_mk base cs).2.2.1 b i) = _
    by_cases hb : b = base + a
    · subst hb
      simp only [true_and, if_true, List.lookup_cons]
      by_cases hi : i = j
      · subst hi; simp
      · have : (i == j) = false := by simp [hi]
        rw [this, if_neg hi, tr_P_mk, hc]
        rfl
    · simp [hb]
  · funext b i
    show (tr_mk base cs).2.2.2 b i = _
    by_cases hb : b = base + a
    · subst hb
      dsimp only
      rw [if_pos rfl, tr_I_mk, hc]
      rfl
    · dsimp only
      rw [if_neg hb]
theorem tr_putI (base : Nat) (cs : tr_St) (a j : Nat) (x : Int32) (c : Nat × Nat × List (Nat × Nat) × List (Nat × Int32)) (hc : cs[a]? = some c) : tw_sI (tr_mk base cs) (base + a) j x = tr_mk base (cs.set a (c.1, c.2.1, c.2.2.1, (j, x) :: c.2.2.2)) := by
  rw [tr_set_mk base cs a c (c.1, c.2.1, c.2.2.1, (j, x) :: c.2.2.2) hc rfl rfl]
  refine Prod.ext rfl (Prod.ext rfl (Prod.ext ?_ ?_))
  · funext b i
    show (tr_mk base cs).2.2.1 b i = _
    by_cases hb : b = base + a
    · subst hb
      dsimp only
      rw [if_pos rfl, tr_P_mk, hc]
      rfl
    · dsimp only
      rw [if_neg hb]
  · funext b i
    show (if b = base + a ∧ i = j then x else (tr_mk base cs).2.2.2 b i) = _
    by_cases hb : b = base + a
    · subst hb
      simp only [true_and, if_true, List.lookup_cons]
      by_cases hi : i = j
      · subst hi; simp
      · have : (i == j) = false := by simp [hi]
        rw [this, if_neg hi, tr_I_mk, hc]
        rfl
    · simp [hb]
theorem tr_pP_mk (base : Nat) (cs : tr_St) (t a j x : Nat) : tw_pP (tr_mk base cs) t (base + a) j (base + x) = (tr_pP cs t a j x).map (tr_mk base) := by
  unfold tw_pP tr_pP
  rw [tr_sh_mk]
  cases h : cs[a]? with
  | none => rfl
  | some c =>
    simp only [Option.map_some]
    split
    · rw [tr_putP base cs a j x c h]; rfl
    · rfl
theorem tr_wI_mk (base : Nat) (cs : tr_St) (t a : Nat) (i x : Int32) : tw_wI (tr_mk base cs) t (base + a) i x = (tr_wI cs t a i x).map (tr_mk base) := by
  unfold tw_wI tr_wI
  rw [tr_sh_mk]
  cases h : cs[a]? with
  | none => rfl
  | some c =>
    simp only [Option.map_some]
    split
    · rw [tr_putI base cs a _ x c h]; rfl
    · rfl
theorem tr_wP_mk (base : Nat) (cs : tr_St) (t tv a : Nat) (i : Int32) (x : Nat) : tw_wP (tr_mk base cs) t tv (base + a) i (base + x) = (tr_wP cs t tv a i x).map (tr_mk base) := by
  unfold tw_wP tr_wP
  rw [tr_sh_mk, tr_sh_mk]
  cases h : cs[a]? with
  | none => rfl
  | some c =>
    cases h2 : cs[x]? with
    | none => rfl
    | some z =>
      simp only [Option.map_some]
      split
      · rw [tr_putP base cs a _ x c h]; rfl
      · rfl
def gX3_init (σ : tr_St) (a : Nat) : Option (tr_St) :=
  (tr_is σ 3 a).bind fun _ =>
  (tr_pP (tr_new σ 20 60) 3 a 1 σ.length).bind fun σ9 =>
  some σ9
def gX6_init (σ : tr_St) (a : Nat) : Option (tr_St) :=
  (tr_is σ 6 a).bind fun _ =>
  (tr_wI (tr_new σ 20 3) 20 σ.length 0 0).bind fun σ11 =>
  (tr_wI σ11 20 σ.length 1 3).bind fun σ15 =>
  (tr_wI σ15 20 σ.length 2 4).bind fun σ19 =>
  (tr_pP σ19 6 a 0 σ.length).bind fun σ20 =>
  (gX3_init (tr_new (tr_new σ20 25 2) 3 2) ((tr_new σ20 25 2).length)).bind fun σ34 =>
  (tr_wP σ34 25 3 σ20.length 0 ((tr_new σ20 25 2).length)).bind fun σ37 =>
  (gX3_init (tr_new σ37 3 2) σ37.length).bind fun σ44 =>
  (tr_wP σ44 25 3 σ20.length 1 σ37.length).bind fun σ47 =>
  (tr_pP σ47 6 a 1 σ20.length).bind fun σ48 =>
  (tr_pP (tr_grid σ48 2 12) 6 a 2 σ48.length).bind fun σ59 =>
  some σ59
def gX2_init (σ : tr_St) (a : Nat) : Option (tr_St) :=
  (tr_is σ 2 a).bind fun _ =>
  (tr_pP (tr_new σ 20 100) 2 a 2 σ.length).bind fun σ9 =>
  (tr_pP (tr_new σ9 20 12) 2 a 3 σ9.length).bind fun σ17 =>
  some σ17
def gX5_init (σ : tr_St) (a : Nat) (r1 : Nat) : Option (tr_St) :=
  (tr_is σ 5 a).bind fun _ =>
  (gX2_init (tr_new (tr_new σ 26 2) 2 4) ((tr_new σ 26 2).length)).bind fun σ15 =>
  (tr_wP σ15 26 2 σ.length 0 ((tr_new σ 26 2).length)).bind fun σ18 =>
  (gX2_init (tr_new σ18 2 4) σ18.length).bind fun σ25 =>
  (tr_wP σ25 26 2 σ.length 1 σ18.length).bind fun σ28 =>
  (tr_pP σ28 5 a 0 σ.length).bind fun σ29 =>
  (tr_pP (tr_new σ29 20 2) 5 a 1 σ29.length).bind fun σ36 =>
  (tr_pP (tr_new σ36 20 2) 5 a 2 σ36.length).bind fun σ43 =>
  (tr_pP (tr_grid σ43 2 100) 5 a 3 σ43.length).bind fun σ54 =>
  (tr_pP (tr_grid σ54 2 100) 5 a 4 σ54.length).bind fun σ65 =>
  (tr_pP (tr_grid σ65 2 5) 5 a 5 σ65.length).bind fun σ75 =>
  (tr_pP (tr_new σ75 20 2) 5 a 7 σ75.length).bind fun σ82 =>
  (tr_pP (tr_grid σ82 2 4) 5 a 8 σ82.length).bind fun σ92 =>
  (tr_pP (tr_new σ92 20 2) 5 a 9 σ92.length).bind fun σ99 =>
  (tr_pP (tr_new σ99 20 2) 5 a 10 σ99.length).bind fun σ106 =>
  (tr_pP σ106 5 a 6 r1).bind fun σ111 =>
  some σ111
def gX1_init (σ : tr_St) (a : Nat) : Option (tr_St) :=
  (tr_is σ 1 a).bind fun _ =>
  (tr_pP (tr_new σ 21 80) 1 a 1 σ.length).bind fun σ9 =>
  some σ9
def gX4_init (σ : tr_St) (a : Nat) (r1 : Nat) : Option (tr_St) :=
  (tr_is σ 4 a).bind fun _ =>
  (gX3_init (tr_new σ 3 2) σ.length).bind fun σ9 =>
  (tr_pP σ9 4 a 0 σ.length).bind fun σ12 =>
  (tr_pP σ12 4 a 2 r1).bind fun σ17 =>
  some σ17
def gX0_init (σ : tr_St) (a : Nat) : Option (tr_St) :=
  (tr_is σ 0 a).bind fun _ =>
  (tr_pP (tr_new σ 24 6) 0 a 2 σ.length).bind fun σ10 =>
  (tr_gP σ10 0 a 2).bind fun v22 =>
  (gX6_init (tr_new σ10 6 3) σ10.length).bind fun σ30 =>
  (tr_wP σ30 24 6 v22 0 σ10.length).bind fun σ33 =>
  (tr_gP σ33 0 a 2).bind fun v22 =>
  (gX6_init (tr_new σ33 6 3) σ33.length).bind fun σ30 =>
  (tr_wP σ30 24 6 v22 1 σ33.length).bind fun σ33 =>
  (tr_gP σ33 0 a 2).bind fun v22 =>
  (gX6_init (tr_new σ33 6 3) σ33.length).bind fun σ30 =>
  (tr_wP σ30 24 6 v22 2 σ33.length).bind fun σ33 =>
  (tr_gP σ33 0 a 2).bind fun v22 =>
  (gX6_init (tr_new σ33 6 3) σ33.length).bind fun σ30 =>
  (tr_wP σ30 24 6 v22 3 σ33.length).bind fun σ33 =>
  (tr_gP σ33 0 a 2).bind fun v22 =>
  (gX6_init (tr_new σ33 6 3) σ33.length).bind fun σ30 =>
  (tr_wP σ30 24 6 v22 4 σ33.length).bind fun σ33 =>
  (tr_gP σ33 0 a 2).bind fun v22 =>
  (gX6_init (tr_new σ33 6 3) σ33.length).bind fun σ30 =>
  (tr_wP σ30 24 6 v22 5 σ33.length).bind fun σ33 =>
  some σ33
def gX7_init (σ : tr_St) (a : Nat) : Option (tr_St) :=
  (tr_is σ 7 a).bind fun _ =>
  (gX6_init (tr_new σ 6 3) σ.length).bind fun σ9 =>
  (tr_pP σ9 7 a 0 σ.length).bind fun σ12 =>
  (tr_gP (tr_new σ12 5 12) 7 a 0).bind fun v21 =>
  (gX5_init (tr_new σ12 5 12) σ12.length v21).bind fun σ24 =>
  (tr_pP σ24 7 a 1 σ12.length).bind fun σ27 =>
  (gX6_init (tr_new σ27 6 3) σ27.length).bind fun σ35 =>
  (tr_pP σ35 7 a 2 σ27.length).bind fun σ38 =>
  (tr_gP (tr_new σ38 5 12) 7 a 2).bind fun v47 =>
  (gX5_init (tr_new σ38 5 12) σ38.length v47).bind fun σ50 =>
  (tr_pP σ50 7 a 3 σ38.length).bind fun σ53 =>
  (gX1_init (tr_new σ53 1 2) σ53.length).bind fun σ61 =>
  (tr_pP σ61 7 a 4 σ53.length).bind fun σ64 =>
  (tr_gP (tr_new σ64 4 4) 7 a 4).bind fun v73 =>
  (gX4_init (tr_new σ64 4 4) σ64.length v73).bind fun σ76 =>
  (tr_pP σ76 7 a 5 σ64.length).bind fun σ79 =>
  (gX0_init (tr_new σ79 0 3) σ79.length).bind fun σ87 =>
  (tr_pP σ87 7 a 6 σ79.length).bind fun σ90 =>
  (tr_pP (tr_new σ90 24 2) 7 a 7 σ90.length).bind fun σ98 =>
  (tr_gP σ98 7 a 7).bind fun v109 =>
  (gX6_init (tr_new σ98 6 3) σ98.length).bind fun σ117 =>
  (tr_wP σ117 24 6 v109 0 σ98.length).bind fun σ120 =>
  (tr_gP σ120 7 a 7).bind fun v109 =>
  (gX6_init (tr_new σ120 6 3) σ120.length).bind fun σ117 =>
  (tr_wP σ117 24 6 v109 1 σ120.length).bind fun σ120 =>
  (tr_pP (tr_new σ120 22 2) 7 a 8 σ120.length).bind fun σ131 =>
  some σ131
def gX8_init (σ : tr_St) (a : Nat) : Option (tr_St) :=
  (tr_is σ 8 a).bind fun _ =>
  (tr_pP (tr_new σ 20 210) 8 a 0 σ.length).bind fun σ10 =>
  (tr_pP (tr_new σ10 20 1260) 8 a 1 σ10.length).bind fun σ19 =>
  (tr_pP (tr_new σ19 20 420) 8 a 3 σ19.length).bind fun σ28 =>
  (tr_pP (tr_new σ28 22 2) 8 a 4 σ28.length).bind fun σ35 =>
  (tr_pP (tr_new σ35 20 80) 8 a 5 σ35.length).bind fun σ43 =>
  (tr_pP (tr_new σ43 20 150) 8 a 7 σ43.length).bind fun σ52 =>
  (tr_pP (tr_new σ52 20 24) 8 a 11 σ52.length).bind fun σ60 =>
  (tr_pP (tr_new σ60 20 8) 8 a 12 σ60.length).bind fun σ68 =>
  (tr_pP (tr_new σ68 20 200) 8 a 13 σ68.length).bind fun σ77 =>
  (tr_pP (tr_new σ77 20 200) 8 a 14 σ77.length).bind fun σ86 =>
  (tr_pP (tr_new σ86 20 200) 8 a 15 σ86.length).bind fun σ95 =>
  (tr_pP (tr_new σ95 20 200) 8 a 16 σ95.length).bind fun σ104 =>
  (tr_pP (tr_new σ104 20 2) 8 a 17 σ104.length).bind fun σ111 =>
  (tr_pP (tr_new σ111 20 2) 8 a 18 σ111.length).bind fun σ118 =>
  (tr_pP (tr_new σ118 20 10) 8 a 19 σ118.length).bind fun σ126 =>
  (tr_pP (tr_new σ126 20 10) 8 a 20 σ126.length).bind fun σ134 =>
  (tr_pP (tr_new σ134 20 2) 8 a 21 σ134.length).bind fun σ141 =>
  (tr_pP (tr_new σ141 20 2) 8 a 22 σ141.length).bind fun σ148 =>
  (tr_pP (tr_new σ148 20 24) 8 a 23 σ148.length).bind fun σ156 =>
  (tr_gP σ156 8 a 0).bind fun v160 =>
  (tr_wI σ156 20 v160 1 3).bind fun σ165 =>
  (tr_gP σ165 8 a 0).bind fun v167 =>
  (tr_wI σ165 20 v167 2 4).bind fun σ172 =>
  some σ172
theorem hX3_init (base : Nat) (σ : tr_St) (a : Nat) : fX3_init (tr_mk base σ) (base + a) = (gX3_init σ a).map (tr_mk base) := by
  simp only [fX3_init, gX3_init, tr_new_mk, tr_grid_mk, tr_len_mk, tr_is_mk, tr_pP_mk, tr_gP_mk, tr_wP_mk, tr_wI_mk, Option.bind_map, Option.map_bind, Function.comp_def, Option.map_some]
theorem hX6_init (base : Nat) (σ : tr_St) (a : Nat) : fX6_init (tr_mk base σ) (base + a) = (gX6_init σ a).map (tr_mk base) := by
  simp only [fX6_init, gX6_init, tr_new_mk, tr_grid_mk, tr_len_mk, tr_is_mk, tr_pP_mk, tr_gP_mk, tr_wP_mk, tr_wI_mk, Option.bind_map, Option.map_bind, Function.comp_def, Option.map_some, hX3_init]
theorem hX2_init (base : Nat) (σ : tr_St) (a : Nat) : fX2_init (tr_mk base σ) (base + a) = (gX2_init σ a).map (tr_mk base) := by
  simp only [fX2_init, gX2_init, tr_new_mk, tr_grid_mk, tr_len_mk, tr_is_mk, tr_pP_mk, tr_gP_mk, tr_wP_mk, tr_wI_mk, Option.bind_map, Option.map_bind, Function.comp_def, Option.map_some, hX3_init, hX6_init]
theorem hX5_init (base : Nat) (σ : tr_St) (a : Nat) (r1 : Nat) : fX5_init (tr_mk base σ) (base + a) (base + r1) = (gX5_init σ a r1).map (tr_mk base) := by
  simp only [fX5_init, gX5_init, tr_new_mk, tr_grid_mk, tr_len_mk, tr_is_mk, tr_pP_mk, tr_gP_mk, tr_wP_mk, tr_wI_mk, Option.bind_map, Option.map_bind, Function.comp_def, Option.map_some, hX3_init, hX6_init, hX2_init]
theorem hX1_init (base : Nat) (σ : tr_St) (a : Nat) : fX1_init (tr_mk base σ) (base + a) = (gX1_init σ a).map (tr_mk base) := by
  simp only [fX1_init, gX1_init, tr_new_mk, tr_grid_mk, tr_len_mk, tr_is_mk, tr_pP_mk, tr_gP_mk, tr_wP_mk, tr_wI_mk, Option.bind_map, Option.map_bind, Function.comp_def, Option.map_some, hX3_init, hX6_init, hX2_init, hX5_init]
theorem hX4_init (base : Nat) (σ : tr_St) (a : Nat) (r1 : Nat) : fX4_init (tr_mk base σ) (base + a) (base + r1) = (gX4_init σ a r1).map (tr_mk base) := by
  simp only [fX4_init, gX4_init, tr_new_mk, tr_grid_mk, tr_len_mk, tr_is_mk, tr_pP_mk, tr_gP_mk, tr_wP_mk, tr_wI_mk, Option.bind_map, Option.map_bind, Function.comp_def, Option.map_some, hX3_init, hX6_init, hX2_init, hX5_init, hX1_init]
theorem hX0_init (base : Nat) (σ : tr_St) (a : Nat) : fX0_init (tr_mk base σ) (base + a) = (gX0_init σ a).map (tr_mk base) := by
  simp only [fX0_init, gX0_init, tr_new_mk, tr_grid_mk, tr_len_mk, tr_is_mk, tr_pP_mk, tr_gP_mk, tr_wP_mk, tr_wI_mk, Option.bind_map, Option.map_bind, Function.comp_def, Option.map_some, hX3_init, hX6_init, hX2_init, hX5_init, hX1_init, hX4_init]
theorem hX7_init (base : Nat) (σ : tr_St) (a : Nat) : fX7_init (tr_mk base σ) (base + a) = (gX7_init σ a).map (tr_mk base) := by
  simp only [fX7_init, gX7_init, tr_new_mk, tr_grid_mk, tr_len_mk, tr_is_mk, tr_pP_mk, tr_gP_mk, tr_wP_mk, tr_wI_mk, Option.bind_map, Option.map_bind, Function.comp_def, Option.map_some, hX3_init, hX6_init, hX2_init, hX5_init, hX1_init, hX4_init, hX0_init]
theorem hX8_init (base : Nat) (σ : tr_St) (a : Nat) : fX8_init (tr_mk base σ) (base + a) = (gX8_init σ a).map (tr_mk base) := by
  simp only [fX8_init, gX8_init, tr_new_mk, tr_grid_mk, tr_len_mk, tr_is_mk, tr_pP_mk, tr_gP_mk, tr_wP_mk, tr_wI_mk, Option.bind_map, Option.map_bind, Function.comp_def, Option.map_some, hX3_init, hX6_init, hX2_init, hX5_init, hX1_init, hX4_init, hX0_init, hX7_init]
def tr_CS : tr_St := [(7, 9, [(8, 159), (7, 138), (6, 76), (5, 73), (4, 71), (3, 46), (2, 36), (1, 11), (0, 1)], []),
  (6, 3, [(2, 8), (1, 3), (0, 2)], []),
  (20, 3, [], [(2, 4), (1, 3), (0, 0)]),
  (25, 2, [(1, 6), (0, 4)], []),
  (3, 2, [(1, 5)], []),
  (20, 60, [], []),
  (3, 2, [(1, 7)], []),
  (20, 60, [], []),
  (23, 2, [(0, 9), (1, 10)], []),
  (20, 12, [], []),
  (20, 12, [], []),
  (5, 12, [(6, 1), (10, 35), (9, 34), (8, 31), (7, 30), (5, 27), (4, 24), (3, 21), (2, 20), (1, 19), (0, 12)], []),
  (26, 2, [(1, 16), (0, 13)], []),
  (2, 4, [(3, 15), (2, 14)], []),
  (20, 100, [], []),
  (20, 12, [], []),
  (2, 4, [(3, 18), (2, 17)], []),
  (20, 100, [], []),
  (20, 12, [], []),
  (20, 2, [], []),
  (20, 2, [], []),
  (23, 2, [(0, 22), (1, 23)], []),
  (20, 100, [], []),
  (20, 100, [], []),
  (23, 2, [(0, 25), (1, 26)], []),
  (20, 100, [], []),
  (20, 100, [], []),
  (23, 2, [(0, 28), (1, 29)], []),
  (20, 5, [], []),
  (20, 5, [], []),
  (20, 2, [], []),
  (23, 2, [(0, 32), (1, 33)], []),
  (20, 4, [], []),
  (20, 4, [], []),
  (20, 2, [], []),
  (20, 2, [], []),
  (6, 3, [(2, 43), (1, 38), (0, 37)], []),
  (20, 3, [], [(2, 4), (1, 3), (0, 0)]),
  (25, 2, [(1, 41), (0, 39)], []),
  (3, 2, [(1, 40)], []),
  (20, 60, [], []),
  (3, 2, [(1, 42)], []),
  (20, 60, [], []),
  (23, 2, [(0, 44), (1, 45)], []),
  (20, 12, [], []),
  (20, 12, [], []),
  (5, 12, [(6, 36), (10, 70), (9, 69), (8, 66), (7, 65), (5, 62), (4, 59), (3, 56), (2, 55), (1, 54), (0, 47)], []),
  (26, 2, [(1, 51), (0, 48)], []),
  (2, 4, [(3, 50), (2, 49)], []),
  (20, 100, [], []),
  (20, 12, [], []),
  (2, 4, [(3, 53), (2, 52)], []),
  (20, 100, [], []),
  (20, 12, [], []),
  (20, 2, [], []),
  (20, 2, [], []),
  (23, 2, [(0, 57), (1, 58)], []),
  (20, 100, [], []),
  (20, 100, [], []),
  (23, 2, [(0, 60), (1, 61)], []),
  (20, 100, [], []),
  (20, 100, [], []),
  (23, 2, [(0, 63), (1, 64)], []),
  (20, 5, [], []),
  (20, 5, [], []),
  (20, 2, [], []),
  (23, 2, [(0, 67), (1, 68)], []),
  (20, 4, [], []),
  (20, 4, [], []),
  (20, 2, [], []),
  (20, 2, [], []),
  (1, 2, [(1, 72)], []),
  (21, 80, [], []),
  (4, 4, [(2, 71), (0, 74)], []),
  (3, 2, [(1, 75)], []),
  (20, 60, [], []),
  (0, 3, [(2, 77)], []),
  (24, 6, [(5, 128), (4, 118), (3, 108), (2, 98), (1, 88), (0, 78)], []),
  (6, 3, [(2, 85), (1, 80), (0, 79)], []),
  (20, 3, [], [(2, 4), (1, 3), (0, 0)]),
  (25, 2, [(1, 83), (0, 81)], []),
  (3, 2, [(1, 82)], []),
  (20, 60, [], []),
  (3, 2, [(1, 84)], []),
  (20, 60, [], []),
  (23, 2, [(0, 86), (1, 87)], []),
  (20, 12, [], []),
  (20, 12, [], []),
  (6, 3, [(2, 95), (1, 90), (0, 89)], []),
  (20, 3, [], [(2, 4), (1, 3), (0, 0)]),
  (25, 2, [(1, 93), (0, 91)], []),
  (3, 2, [(1, 92)], []),
  (20, 60, [], []),
  (3, 2, [(1, 94)], []),
  (20, 60, [], []),
  (23, 2, [(0, 96), (1, 97)], []),
  (20, 12, [], []),
  (20, 12, [], []),
  (6, 3, [(2, 105), (1, 100), (0, 99)], []),
  (20, 3, [], [(2, 4), (1, 3), (0, 0)]),
  (25, 2, [(1, 103), (0, 101)], []),
  (3, 2, [(1, 102)], []),
  (20, 60, [], []),
  (3, 2, [(1, 104)], []),
  (20, 60, [], []),
  (23, 2, [(0, 106), (1, 107)], []),
  (20, 12, [], []),
  (20, 12, [], []),
  (6, 3, [(2, 115), (1, 110), (0, 109)], []),
  (20, 3, [], [(2, 4), (1, 3), (0, 0)]),
  (25, 2, [(1, 113), (0, 111)], []),
  (3, 2, [(1, 112)], []),
  (20, 60, [], []),
  (3, 2, [(1, 114)], []),
  (20, 60, [], []),
  (23, 2, [(0, 116), (1, 117)], []),
  (20, 12, [], []),
  (20, 12, [], []),
  (6, 3, [(2, 125), (1, 120), (0, 119)], []),
  (20, 3, [], [(2, 4), (1, 3), (0, 0)]),
  (25, 2, [(1, 123), (0, 121)], []),
  (3, 2, [(1, 122)], []),
  (20, 60, [], []),
  (3, 2, [(1, 124)], []),
  (20, 60, [], []),
  (23, 2, [(0, 126), (1, 127)], []),
  (20, 12, [], []),
  (20, 12, [], []),
  (6, 3, [(2, 135), (1, 130), (0, 129)], []),
  (20, 3, [], [(2, 4), (1, 3), (0, 0)]),
  (25, 2, [(1, 133), (0, 131)], []),
  (3, 2, [(1, 132)], []),
  (20, 60, [], []),
  (3, 2, [(1, 134)], []),
  (20, 60, [], []),
  (23, 2, [(0, 136), (1, 137)], []),
  (20, 12, [], []),
  (20, 12, [], []),
  (24, 2, [(1, 149), (0, 139)], []),
  (6, 3, [(2, 146), (1, 141), (0, 140)], []),
  (20, 3, [], [(2, 4), (1, 3), (0, 0)]),
  (25, 2, [(1, 144), (0, 142)], []),
  (3, 2, [(1, 143)], []),
  (20, 60, [], []),
  (3, 2, [(1, 145)], []),
  (20, 60, [], []),
  (23, 2, [(0, 147), (1, 148)], []),
  (20, 12, [], []),
  (20, 12, [], []),
  (6, 3, [(2, 156), (1, 151), (0, 150)], []),
  (20, 3, [], [(2, 4), (1, 3), (0, 0)]),
  (25, 2, [(1, 154), (0, 152)], []),
  (3, 2, [(1, 153)], []),
  (20, 60, [], []),
  (3, 2, [(1, 155)], []),
  (20, 60, [], []),
  (23, 2, [(0, 157), (1, 158)], []),
  (20, 12, [], []),
  (20, 12, [], []),
  (22, 2, [], []),
  (8, 24, [(23, 179), (22, 178), (21, 177), (20, 176), (19, 175), (18, 174), (17, 173), (16, 172), (15, 171), (14, 170), (13, 169), (12, 168), (11, 167), (7, 166), (5, 165), (4, 164), (3, 163), (1, 162), (0, 161)], []),
  (20, 210, [], [(2, 4), (1, 3)]),
  (20, 1260, [], []),
  (20, 420, [], []),
  (22, 2, [], []),
  (20, 80, [], []),
  (20, 150, [], []),
  (20, 24, [], []),
  (20, 8, [], []),
  (20, 200, [], []),
  (20, 200, [], []),
  (20, 200, [], []),
  (20, 200, [], []),
  (20, 2, [], []),
  (20, 2, [], []),
  (20, 10, [], []),
  (20, 10, [], []),
  (20, 2, [], []),
  (20, 2, [], []),
  (20, 24, [], [])]
def tr_all : Option tr_St := (gX7_init (tr_new [] 7 9) 0).bind fun c => gX8_init (tr_new c 8 24) c.length
def tr_eqb : tr_St → tr_St → Bool
  | [], [] => true
  | c :: r, d :: q => decide (c.1 = d.1) && decide (c.2.1 = d.2.1) && decide (c.2.2.1 = d.2.2.1) && decide (c.2.2.2 = d.2.2.2) && tr_eqb r q
  | _, _ => false
theorem tr_eqb_eq : ∀ (a b : tr_St), tr_eqb a b = true → a = b
  | [], [], _ => rfl
  | c :: r, d :: q, h => by
    simp only [tr_eqb, Bool.and_eq_true, decide_eq_true_eq] at h
    obtain ⟨⟨⟨⟨h1, h2⟩, h3⟩, h4⟩, h5⟩ := h
    rw [tr_eqb_eq r q h5]
    exact congrArg (fun z => z :: q) (Prod.ext h1 (Prod.ext h2 (Prod.ext h3 h4)))
  | [], _ :: _, h => by cases h
  | _ :: _, [], h => by cases h
theorem tr_all_CS : tr_all = some tr_CS := by
  have h1 : tr_all.getD [] = tr_CS := tr_eqb_eq _ _ (by decide +kernel)
  have h2 : tr_all.isSome = true := by decide +kernel
  cases h : tr_all with
  | none => rw [h] at h2; cases h2
  | some c => rw [h] at h1; exact congrArg some h1
theorem tr_0 (base : Nat) : tw_0 base = tr_mk base [] := by
  refine Prod.ext rfl (Prod.ext ?_ (Prod.ext ?_ ?_))
  · funext a; simp [tw_0, tr_mk]
  · funext a j; simp [tw_0, tr_mk]
  · funext a j; simp [tw_0, tr_mk]
/-- the store behind both constructors -/
theorem tr_made (base L : Nat) (xs : Nat → Int32) : fL_law xs L (tw_0 base) = fL_law_l18 xs L tw_F (tr_mk base tr_CS) base (base + 160) 0 := by
  unfold fL_law
  rw [tr_0, tr_new_mk, show (tr_mk base []).1 = base + 0 from rfl, hX7_init]
  have h := tr_all_CS
  unfold tr_all at h
  obtain ⟨c, h1, h2⟩ := Option.bind_eq_some_iff.mp h
  rw [h1, Option.map_some, Option.bind_some, tr_new_mk, tr_len_mk, hX8_init, h2, Option.map_some, Option.bind_some]
  have h3 : (gX7_init (tr_new [] 7 9) 0).map (fun c => c.length) = some 160 := by decide +kernel
  rw [h1] at h3
  have h4 : c.length = 160 := Option.some.inj h3
  rw [h4]
  rfl
