/-! The store of this proof: every cell that the law makes, by address; a shape (kind and length), references and whole numbers apart. Each method is turned (by a program, wip/whole/gen.py) into a function over it that is none where a test fails; a contract says that the machine runs as the function does. -/
abbrev tw_Sh : Type := Nat → Option (Nat × Nat)
abbrev tw_St : Type := Nat × tw_Sh × (Nat → Nat → Option Nat) × (Nat → Nat → Int32)
abbrev tw_G : Type := va_G × (Nat → ClassId) × Nat × Nat × Nat
def tw_A (G : tw_G) : Nat → Prop := fun q => G.2.2.2.2 ≤ q
def tw_isR : Nat → Nat → Bool := fun t j => match t with
  | 0 => j == 2
  | 1 => j == 1
  | 2 => j == 2 || j == 3
  | 3 => j == 1
  | 4 => j == 0 || j == 2
  | 5 => !(j == 11)
  | 6 => true
  | 7 => true
  | 8 => !(j == 2 || j == 6 || j == 8 || j == 9 || j == 10)
  | 20 => false
  | 21 => false
  | 22 => false
  | _ => true
def tw_ty : Nat → FieldType := fun t => match t with
  | 20 => .int
  | 21 => .char
  | 22 => .boolean
  | 23 => .array .int
  | 24 => .object RX6
  | 25 => .object RX3
  | _ => .object RX2
def tw_v (t : Nat) (P : Nat → Nat → Option Nat) (I : Nat → Nat → Int32) (a : Nat) : Nat → Value := fun j => if tw_isR t j = true then va_rf (P a j) else .int (I a j)
def tw_cell (G : tw_G) (t n a : Nat) (V : Nat → Value) (H : Heap) : Prop := match vwCl[t]? with
  | some r => t_OB a (G.1.1 t) r.2.2 (G.1.2 t) H V
  | none => H[a]? = some (arrV (G.2.1 t) n V)
def tw_R (G : tw_G) (σ : tw_St) (H : Heap) : Prop := H.size = σ.1 ∧ G.2.2.2.2 ≤ σ.1 ∧ ∀ a t n, σ.2.1 a = some (t, n) → G.2.2.2.2 ≤ a ∧ tw_cell G t n a (tw_v t σ.2.2.1 σ.2.2.2 a) H
def tw_W : List Cond := lw_tbl.filter goodWord
theorem tw_in {w : Cond} (i : Nat) (h : lw_tbl[i]? = some w) (g : goodWord w = true) : w ∈ tw_W := List.mem_filter.mpr ⟨List.mem_of_getElem? h, g⟩
theorem tw_good {y : MethodName} {b : ByteArray} {n : Nat} {r : Option FieldType} {z : Cond} (h : Cond.code y b n r ∈ tw_W) : GoodIn (z :: tw_W) (Cond.code y b n r :: tw_W) := fun w hw => by
  have h1 : w ∈ tw_W := (List.mem_cons.mp hw).elim (fun e => by rw [e]; exact h) id
  exact ⟨List.mem_cons_of_mem _ h1, good_of_word (List.mem_filter.mp h1).2⟩
theorem tw_pay {args : Array Value} {s : State} {ws : List Cond} (hts : ∀ w ∈ tw_W, w.before args s = true) (h : ∀ w ∈ ws, w ∈ tw_W) : ∀ w ∈ ws, ∀ (a' : Array Value) (U : State), s.WarmedH U.vm → w.before a' U = true :=
  fun w hw a' U hW => word_at hW (good_of_word (List.mem_filter.mp (h w hw)).2) (hts w (h w hw))
def va_AOA (t : FieldType) (U : State) : Prop := (Cond.arrayOver (.array t)).before #[] U = true
theorem va_AOA.of {t : FieldType} {A : Array Value} {U : State} (h : (Cond.arrayOver (.array t)).before A U = true) : va_AOA t U := h
theorem va_AOA.use {t : FieldType} {A : Array Value} {U : State} (h : va_AOA t U) : (Cond.arrayOver (.array t)).before A U = true := h
theorem va_AOA.moved {t : FieldType} {u U : State} (hvm : u.vm.Alike U.vm) (h : va_AOA t u) : va_AOA t U := by
  obtain ⟨comp, c, k, h1, h2, h3, h4, h5⟩ := arrayOverA_spec h
  obtain ⟨k', hk', he⟩ := hvm.2.2 _ _ h3
  have hi : (U.vm.classes.findIdx? fun (x : Class) => match x.kind with | .array component _ => component == comp | _ => false) = some c := by
    rw [hvm.findIdx?_eq _ (fun _ => rfl)]
    exact h2
  have hkind : k'.kind = .array comp (.array t) := by rw [he]; exact h4
  have f1 : U.vm.findClass (FieldType.array t).toString = some comp := by rw [hvm.findClass]; exact h1
  have f2 : U.vm.findClass ("[" ++ (FieldType.array t).toString) = some c := by rw [hvm.findClass]; exact h5
  unfold va_AOA Cond.before Cond.holds
  simp only [Cond.value]
  rw [f1, Option.bind_some]
  refine (congrArg (fun o : Option Nat => (o.bind (fun c => (U.vm.classes[c]?).map fun (k : Class) => match k.kind with | .array _ ty => decide (ty = FieldType.array t) && decide (U.vm.findClass ("[" ++ (FieldType.array t).toString) = some c) | _ => false) == some true)) hi).trans ?_
  simp [hk', hkind, f2]
def tw_KN (U : State) : Prop := va_Nw (.methodLinkNest RX7 9 yX6_init RX7) U ∧ va_Nw (.methodLinkNest RX6 17 yX3_init RX7) U ∧ va_Nw (.methodLinkNest RX5 11 yX2_init RX7) U ∧ va_Nw (.methodLinkNest RX7 33 yX1_init RX7) U ∧ va_Nw (.methodLinkNest RX4 11 yX3_init RX7) U ∧ va_Nw (.methodLinkNest RX0 17 yX6_init RX7) U ∧ va_AO RX3 U ∧ va_AO RX2 U ∧ va_AO RX6 U ∧ va_AOA .int U
def tw_low (j : Nat) : Int32 := if j = 0 then 0 else 1
def tw_hig (j : Nat) : Int32 := if j = 0 then 2 else 9
def tw_K (G : tw_G) (U : State) (H : Heap) : Prop := (∀ t r, vwCl[t]? = some r → u_Kn U r.1 r.2.1 r.2.2 (G.1.1 t) (G.1.2 t)) ∧ (∀ t, 20 ≤ t → t < 27 → ArrOfT U (G.2.1 t) (tw_ty t) ∧ va_RA U (G.2.1 t) (tw_ty t)) ∧ tw_KN U ∧ va_Z RX7 "LOWEST" "[I" (.ref G.2.2.1) (tw_A G) U H ∧ va_Z RX7 "HIGHEST" "[I" (.ref G.2.2.2.1) (tw_A G) U H ∧ va_T .int G.2.2.1 3 (fun j => .int (tw_low j)) (tw_A G) U H ∧ va_T .int G.2.2.2.1 3 (fun j => .int (tw_hig j)) (tw_A G) U H ∧ ∃ kA : Class, U.vm.classes[G.2.1 23]? = some kA ∧ kA.kind = .array (G.2.1 20) (.array .int)
theorem tw_KN.moved {s U : State} (hW : s.WarmedH U.vm) (h : tw_KN s) : tw_KN U := by
  obtain ⟨h1, h2, h3, h4, h5, h6, h7, h8, h9, h10⟩ := h
  exact ⟨h1.warmM hW, h2.warmM hW, h3.warmM hW, h4.warmM hW, h5.warmM hW, h6.warmM hW, h7.moved hW.alike, h8.moved hW.alike, h9.moved hW.alike, h10.moved hW.alike⟩
theorem tw_K.moved {G : tw_G} {s U : State} {H H1 : Heap} (hW : s.WarmedH U.vm) (h : tw_K G s H) (hq : ∀ a : Nat, a < H.size → ¬ tw_A G a → H1[a]? = H[a]?) : tw_K G U H1 := by
  obtain ⟨h1, h2, h3, h4, h5, h6, h7, kA, h8, h9⟩ := h
  obtain ⟨k', hk', he⟩ := hW.alike.2.2 _ _ h8
  exact ⟨fun t r hr => u_Kn_moved hW.alike (h1 t r hr), fun t a b => ⟨arrOfT_moved hW.alike (h2 t a b).1, (h2 t a b).2.moved hW.alike⟩, h3.moved hW, (h4.kept hq).moved hW.alike, (h5.kept hq).moved hW.alike, (h6.kept hq).moved hW.alike, (h7.kept hq).moved hW.alike, k', hk', by rw [he]; exact h9⟩
theorem tw_KN.same {s U : State} (e : s.vm = U.vm) (h : tw_KN s) : tw_KN U := by
  obtain ⟨h1, h2, h3, h4, h5, h6, h7, h8, h9, h10⟩ := h
  have ha : s.vm.Alike U.vm := by rw [e]; exact Vm.Alike.refl _
  exact ⟨h1.same rfl e, h2.same rfl e, h3.same rfl e, h4.same rfl e, h5.same rfl e, h6.same rfl e, h7.moved ha, h8.moved ha, h9.moved ha, h10.moved ha⟩
theorem tw_K.same {G : tw_G} {s U : State} {H : Heap} (e : s.vm = U.vm) (h : tw_K G s H) : tw_K G U H := by
  obtain ⟨h1, h2, h3, h4, h5, h6, h7, kA, h8, h9⟩ := h
  have ha : s.vm.Alike U.vm := by rw [e]; exact Vm.Alike.refl _
  exact ⟨fun t r hr => u_Kn_moved ha (h1 t r hr), fun t a b => ⟨arrOfT_moved ha (h2 t a b).1, (h2 t a b).2.moved ha⟩, h3.same e, h4.moved ha, h5.moved ha, h6.moved ha, h7.moved ha, kA, by rw [← e]; exact h8, h9⟩
/-- the functions' own words: a test of a cell's kind, reads, writes -/
def tw_is (σ : tw_St) (t a : Nat) : Option Unit := match σ.2.1 a with
  | some q => if q.1 = t then some () else none
  | none => none
def tw_gI (σ : tw_St) (t a k : Nat) : Option Int32 := match σ.2.1 a with
  | some q => if q.1 = t then some (σ.2.2.2 a k) else none
  | none => none
def tw_gP (σ : tw_St) (t a k : Nat) : Option Nat := match σ.2.1 a with
  | some q => if q.1 = t then σ.2.2.1 a k else none
  | none => none
def tw_aI (σ : tw_St) (t a : Nat) (i : Int32) : Option Int32 := match σ.2.1 a with
  | some q => if q.1 = t ∧ ¬ i < 0 ∧ i.toNatClampNeg < q.2 then some (σ.2.2.2 a i.toNatClampNeg) else none
  | none => none
def tw_aP (σ : tw_St) (t a : Nat) (i : Int32) : Option Nat := match σ.2.1 a with
  | some q => if q.1 = t ∧ ¬ i < 0 ∧ i.toNatClampNeg < q.2 then σ.2.2.1 a i.toNatClampNeg else none
  | none => none
def tw_up {α : Type} (f : Nat → Nat → α) (a k : Nat) (x : α) : Nat → Nat → α := fun b j => if b = a ∧ j = k then x else f b j
def tw_sI (σ : tw_St) (a k : Nat) (x : Int32) : tw_St := (σ.1, σ.2.1, σ.2.2.1, tw_up σ.2.2.2 a k x)
def tw_sP (σ : tw_St) (a k : Nat) (x : Option Nat) : tw_St := (σ.1, σ.2.1, tw_up σ.2.2.1 a k x, σ.2.2.2)
def tw_pI (σ : tw_St) (t a k : Nat) (x : Int32) : Option tw_St := match σ.2.1 a with
  | some q => if q.1 = t then some (tw_sI σ a k x) else none
  | none => none
def tw_pP (σ : tw_St) (t a k : Nat) (x : Nat) : Option tw_St := match σ.2.1 a with
  | some q => if q.1 = t then some (tw_sP σ a k (some x)) else none
  | none => none
def tw_bz (x : Int32) : Option Int32 := if x = 0 ∨ x = 1 then some x else none
def tw_bc (x : Int32) : Option Int32 := if ¬ x < 0 ∧ x < 65536 then some x else none
def tw_wI (σ : tw_St) (t a : Nat) (i x : Int32) : Option tw_St := match σ.2.1 a with
  | some q => if q.1 = t ∧ ¬ i < 0 ∧ i.toNatClampNeg < q.2 then some (tw_sI σ a i.toNatClampNeg x) else none
  | none => none
def tw_wP (σ : tw_St) (t tv a : Nat) (i : Int32) (x : Nat) : Option tw_St := match σ.2.1 a, σ.2.1 x with
  | some q, some z => if q.1 = t ∧ z.1 = tv ∧ ¬ i < 0 ∧ i.toNatClampNeg < q.2 then some (tw_sP σ a i.toNatClampNeg (some x)) else none
  | _, _ => none
def tw_len (σ : tw_St) (t a : Nat) : Option Int32 := match σ.2.1 a with
  | some q => if q.1 = t then some (Int32.ofNat q.2) else none
  | none => none
def tw_cpI (f g : Nat → Int32) (sp dp n : Nat) : Nat → Int32 := fun j => if dp ≤ j ∧ j < dp + n then f (sp + (j - dp)) else g j
def tw_cp (σ : tw_St) (b : Nat) (sp : Int32) (a : Nat) (dp n : Int32) : Option tw_St := match σ.2.1 b, σ.2.1 a with
  | some q, some z => if q.1 = 20 ∧ z.1 = 20 ∧ ¬ sp < 0 ∧ ¬ dp < 0 ∧ ¬ n < 0 ∧ sp.toNatClampNeg + n.toNatClampNeg ≤ q.2 ∧ dp.toNatClampNeg + n.toNatClampNeg ≤ z.2 then
      some (σ.1, σ.2.1, σ.2.2.1, fun c => if c = a then tw_cpI (σ.2.2.2 b) (σ.2.2.2 a) sp.toNatClampNeg dp.toNatClampNeg n.toNatClampNeg else σ.2.2.2 c) else none
  | _, _ => none
def tw_new (σ : tw_St) (t n : Nat) : tw_St := (σ.1 + 1, (fun a => if a = σ.1 then some (t, n) else σ.2.1 a), (fun a => if a = σ.1 then fun _ => none else σ.2.2.1 a), (fun a => if a = σ.1 then fun _ => 0 else σ.2.2.2 a))
/-- an outer row of n rows of k numbers each -/
def tw_grid (σ : tw_St) (n k : Nat) : tw_St := (σ.1 + 1 + n, (fun a => if a = σ.1 then some (23, n) else if σ.1 < a ∧ a < σ.1 + 1 + n then some (20, k) else σ.2.1 a), (fun a => if a = σ.1 then fun j => if j < n then some (σ.1 + 1 + j) else none else if σ.1 < a ∧ a < σ.1 + 1 + n then fun _ => none else σ.2.2.1 a), (fun a => if σ.1 ≤ a ∧ a < σ.1 + 1 + n then fun _ => 0 else σ.2.2.2 a))
def tw_lo (i : Int32) : Option Int32 := if ¬ i < 0 ∧ i.toNatClampNeg < 3 then some (tw_low i.toNatClampNeg) else none
def tw_hi (i : Int32) : Option Int32 := if ¬ i < 0 ∧ i.toNatClampNeg < 3 then some (tw_hig i.toNatClampNeg) else none
def tw_sc (xs : Nat → Int32) (L : Nat) (i : Int32) : Option Int32 := if ¬ i < 0 ∧ i.toNatClampNeg < L then some (xs i.toNatClampNeg) else none
/-- before the law's first step -/
def tw_0 (base : Nat) : tw_St := (base, fun _ => none, fun _ _ => none, fun _ _ => 0)
def tw_it {F : Type} (z : F) (B : F → F) : Nat → F
  | 0 => z
  | n + 1 => B (tw_it z B n)
def tw_F : Nat := 100000
theorem tw_ifp {α : Type} {c : Prop} [Decidable c] {A B r : α} (hc : c) (h : (if c then A else B) = r) : A = r := by rwa [if_pos hc] at h
theorem tw_ifn {α : Type} {c : Prop} [Decidable c] {A B r : α} (hc : ¬ c) (h : (if c then A else B) = r) : B = r := by rwa [if_neg hc] at h
theorem tw_bd {α β : Type} {x : Option α} {f : α → Option β} {b : β} (h : x.bind f = some b) : ∃ a, x = some a ∧ f a = some b := Option.bind_eq_some_iff.mp h
/-- what the words say of the store -/
theorem tw_is_sp {σ : tw_St} {t a : Nat} {u : Unit} (h : tw_is σ t a = some u) : ∃ n, σ.2.1 a = some (t, n) := by
  unfold tw_is at h
  split at h
  · rename_i q hq
    split at h
    · rename_i e; exact ⟨q.2, by rw [hq, ← e]⟩
    · cases h
  · cases h
theorem tw_gI_sp {σ : tw_St} {t a k : Nat} {v : Int32} (h : tw_gI σ t a k = some v) : ∃ n, σ.2.1 a = some (t, n) ∧ σ.2.2.2 a k = v := by
  unfold tw_gI at h
  split at h
  · rename_i q hq
    split at h
    · rename_i e; exact ⟨q.2, by rw [hq, ← e], Option.some.inj h⟩
    · cases h
  · cases h
theorem tw_gP_sp {σ : tw_St} {t a k : Nat} {v : Nat} (h : tw_gP σ t a k = some v) : ∃ n, σ.2.1 a = some (t, n) ∧ σ.2.2.1 a k = some v := by
  unfold tw_gP at h
  split at h
  · rename_i q hq
    split at h
    · rename_i e; exact ⟨q.2, by rw [hq, ← e], h⟩
    · cases h
  · cases h
theorem tw_aI_sp {σ : tw_St} {t a : Nat} {i v : Int32} (h : tw_aI σ t a i = some v) : ∃ n, σ.2.1 a = some (t, n) ∧ vp_in i n ∧ σ.2.2.2 a i.toNatClampNeg = v := by
  unfold tw_aI at h
  split at h
  · rename_i q hq
    split at h
    · rename_i e; exact ⟨q.2, by rw [hq, ← e.1], fun z => z.elim e.2.1 (Nat.not_le.mpr e.2.2), Option.some.inj h⟩
    · cases h
  · cases h
theorem tw_aP_sp {σ : tw_St} {t a : Nat} {i : Int32} {v : Nat} (h : tw_aP σ t a i = some v) : ∃ n, σ.2.1 a = some (t, n) ∧ vp_in i n ∧ σ.2.2.1 a i.toNatClampNeg = some v := by
  unfold tw_aP at h
  split at h
  · rename_i q hq
    split at h
    · rename_i e; exact ⟨q.2, by rw [hq, ← e.1], fun z => z.elim e.2.1 (Nat.not_le.mpr e.2.2), h⟩
    · cases h
  · cases h
theorem tw_pI_sp {σ σ' : tw_St} {t a k : Nat} {x : Int32} (h : tw_pI σ t a k x = some σ') : (∃ n, σ.2.1 a = some (t, n)) ∧ σ' = tw_sI σ a k x := by
  unfold tw_pI at h
  split at h
  · rename_i q hq
    split at h
    · rename_i e; exact ⟨⟨q.2, by rw [hq, ← e]⟩, (Option.some.inj h).symm⟩
    · cases h
  · cases h
theorem tw_pP_sp {σ σ' : tw_St} {t a k x : Nat} (h : tw_pP σ t a k x = some σ') : (∃ n, σ.2.1 a = some (t, n)) ∧ σ' = tw_sP σ a k (some x) := by
  unfold tw_pP at h
  split at h
  · rename_i q hq
    split at h
    · rename_i e; exact ⟨⟨q.2, by rw [hq, ← e]⟩, (Option.some.inj h).symm⟩
    · cases h
  · cases h
theorem tw_wI_sp {σ σ' : tw_St} {t a : Nat} {i x : Int32} (h : tw_wI σ t a i x = some σ') : ∃ n, σ.2.1 a = some (t, n) ∧ vp_in i n ∧ σ' = tw_sI σ a i.toNatClampNeg x := by
  unfold tw_wI at h
  split at h
  · rename_i q hq
    split at h
    · rename_i e; exact ⟨q.2, by rw [hq, ← e.1], fun z => z.elim e.2.1 (Nat.not_le.mpr e.2.2), (Option.some.inj h).symm⟩
    · cases h
  · cases h
theorem tw_wP_sp {σ σ' : tw_St} {t tv a x : Nat} {i : Int32} (h : tw_wP σ t tv a i x = some σ') : ∃ n m, σ.2.1 a = some (t, n) ∧ σ.2.1 x = some (tv, m) ∧ vp_in i n ∧ σ' = tw_sP σ a i.toNatClampNeg (some x) := by
  unfold tw_wP at h
  split at h
  · rename_i q z hq hz
    split at h
    · rename_i e; exact ⟨q.2, z.2, by rw [hq, ← e.1], by rw [hz, ← e.2.1], fun z => z.elim e.2.2.1 (Nat.not_le.mpr e.2.2.2), (Option.some.inj h).symm⟩
    · cases h
  · cases h
theorem tw_len_sp {σ : tw_St} {t a : Nat} {v : Int32} (h : tw_len σ t a = some v) : ∃ n, σ.2.1 a = some (t, n) ∧ Int32.ofNat n = v := by
  unfold tw_len at h
  split at h
  · rename_i q hq
    split at h
    · rename_i e; exact ⟨q.2, by rw [hq, ← e], Option.some.inj h⟩
    · cases h
  · cases h
theorem tw_bz_sp {x v : Int32} (h : tw_bz x = some v) : v = x ∧ narrow .boolean (.int x) = .int x ∧ fits .boolean (.int x) = true := by
  unfold tw_bz at h
  split at h
  · rename_i e
    exact ⟨(Option.some.inj h).symm, by rcases e with rfl | rfl <;> exact ⟨rfl, rfl⟩⟩
  · cases h
theorem tw_bc_sp {x v : Int32} (h : tw_bc x = some v) : v = x ∧ narrow .char (.int x) = .int x ∧ fits .char (.int x) = true := by
  unfold tw_bc at h
  split at h
  · rename_i e
    obtain ⟨j, hj, rfl⟩ := nI_of e.1
    refine ⟨(Option.some.inj h).symm, pk_charN ?_⟩
    have h2 := e.2
    rw [show (65536 : Int32) = nI 65536 from rfl, nI_ltI hj (by decide)] at h2
    exact h2
  · cases h
