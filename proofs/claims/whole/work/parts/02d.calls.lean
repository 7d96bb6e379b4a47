theorem tw_v_new {σ : tw_St} {t n : Nat} : tw_v t (tw_new σ t n).2.2.1 (tw_new σ t n).2.2.2 σ.1 = fun j => if tw_isR t j = true then .null else .int 0 := by
  funext j; simp [tw_v, tw_new, va_rf]
theorem tw_v_old {σ : tw_St} {t n b t' : Nat} (h : b ≠ σ.1) : tw_v t' (tw_new σ t n).2.2.1 (tw_new σ t n).2.2.2 b = tw_v t' σ.2.2.1 σ.2.2.2 b := by
  funext j; simp [tw_v, tw_new, h]
theorem tw_R.add {G : tw_G} {σ : tw_St} {H H1 : Heap} {t n : Nat} (hR : tw_R G σ H) (hz : H1.size = H.size + 1) (ho : ∀ q, q < H.size → H1[q]? = H[q]?) (hc : tw_cell G t n σ.1 (fun j => if tw_isR t j = true then .null else .int 0) H1) : tw_R G (tw_new σ t n) H1 := by
  refine ⟨by rw [hz, hR.1]; rfl, Nat.le_succ_of_le hR.2.1, fun b t' n' hb => ?_⟩
  by_cases e : b = σ.1
  · subst e
    simp only [tw_new, if_true] at hb
    cases hb
    refine ⟨hR.2.1, ?_⟩
    rw [tw_v_new]
    exact hc
  · simp only [tw_new, e, if_false] at hb
    obtain ⟨h1, h2⟩ := hR.2.2 b t' n' hb
    refine ⟨h1, ?_⟩
    rw [tw_v_old e]
    exact h2.kept (ho b h2.lt)
theorem tw_S.push {G : tw_G} {H0 H H1 : Heap} {locs : List Loc} (hS : va_S (tw_A G) H0 H locs) (hz : H.size ≤ H1.size) (ho : ∀ q : Nat, q < H.size → H1[q]? = H[q]?) : va_S (tw_A G) H0 H1 locs :=
  ⟨Nat.le_trans hS.1 hz, fun x h1 h2 => (ho x (Nat.lt_of_lt_of_le h1 hS.1)).trans (hS.2.1 x h1 h2), hS.2.2⟩
section TWN
variable {p : Program} {l : Launch} {e : Env} {R : Room} {s : State} {m : MethodId} {args : Array Value} {below : List Frame} {meth : Method} {c : Code} {cells slots : Nat} {Q : State → Prop}
variable {cc : ByteArray} {own : String} {nL : Nat} {ret : Option FieldType} {G : tw_G} {σ σ1 : tw_St} {pc : Nat} {lv lv' : List (Nat × Value)} {st : List Value}
theorem tw_newO {t idx : Nat} {r : vw_C} (h : tw_O p s m args meth c cc own nL ret G) (hd : decode cc pc = .ok (.new idx, 3)) (ht : vwCl[t]? = some r) (hcl : Cond.classLink own idx r.1 ∈ tw_W) (hins : Cond.instantiable r.1 r.2.2 ∈ tw_W) (hini : Cond.initialized r.1 ∈ tw_W) (hc : cells + 1 ≤ R.cells) (hs : slots + r.2.2 ≤ R.slots)
    (kk : tw_X p l e R s m args below meth c nL G (tw_new σ t r.2.2) (cells + 1) (slots + r.2.2) Q (pc + 3) lv (.ref σ.1 :: st)) : tw_X p l e R s m args below meth c nL G σ cells slots Q pc lv st := by
  intro H locs ls hR hS hl
  obtain ⟨hx, hb, -, hown, hts, -, -, hK⟩ := h
  have hKn := hK.1 t r ht
  refine W.newcK hx hb hown (hts _ hcl) (hts _ hins) (hts _ hini) rfl hd hc hs hKn.2.1 rfl fun H1 kC hkC e1 z1 o1 => ?_
  have hc1 : tw_cell G t r.2.2 σ.1 (fun j => if tw_isR t j = true then .null else .int 0) H1 := by
    rw [tw_cell_o ht, ← hR.1]
    exact (u_born (tw_fty t) hts (tw_lay ht) hKn hkC e1 (tw_fty_ok ht)).to (tw_fty_df ht)
  have := kk H1 locs ls (hR.add z1 o1 hc1) (tw_S.push hS (by omega) o1) hl
  rw [← hR.1] at this
  exact this
theorem tw_newA {t : Nat} {atype : ArrayType} {n : Int32} {N : Nat} (h : tw_O p s m args meth c cc own nL ret G) (hd : decode cc pc = .ok (.newarray atype, 2)) (ht : 20 ≤ t ∧ t < 23) (hty : newarray.typeOf atype = tw_ty t) (hw : Cond.arrayClass (newarray.typeOf atype) ∈ tw_W) (hn : ¬ n < 0) (hN : n.toNatClampNeg = N) (hb2 : N * componentBytes (newarray.typeOf atype) ≤ 536870912) (hc : cells + 1 ≤ R.cells) (hs : slots + N ≤ R.slots)
    (kk : tw_X p l e R s m args below meth c nL G (tw_new σ t N) (cells + 1) (slots + N) Q (pc + 2) lv (.ref σ.1 :: st)) : tw_X p l e R s m args below meth c nL G σ cells slots Q pc lv (.int n :: st) := by
  intro H locs ls hR hS hl
  obtain ⟨hx, hb, -, hown, hts, -, -, hK⟩ := h
  have hra := (hK.2.1 t ht.1 (by omega)).2
  refine va_newaK hx hb (hts _ hw) rfl hd rfl hn hN hb2 hc hs rfl fun H1 cA e1 z1 o1 hAr hNm => ?_
  have hcA : cA = G.2.1 t := by
    rw [hty] at hNm
    rcases (show t = 20 ∨ t = 21 ∨ t = 22 by omega) with rfl | rfl | rfl <;> exact Option.some.inj (hNm.symm.trans hra)
  have hc1 : tw_cell G t N σ.1 (fun j => if tw_isR t j = true then .null else .int 0) H1 := by
    rw [tw_cell_a ht.1, ← hR.1, e1, hcA, hty]
    rcases (show t = 20 ∨ t = 21 ∨ t = 22 by omega) with rfl | rfl | rfl <;> rfl
  have := kk H1 locs ls (hR.add z1 o1 hc1) (tw_S.push hS (by omega) o1) hl
  rw [← hR.1] at this
  exact this
theorem tw_newR {t idx : Nat} {C : String} {n : Int32} {N : Nat} (h : tw_O p s m args meth c cc own nL ret G) (hd : decode cc pc = .ok (.anewarray idx, 3)) (ht : 24 ≤ t ∧ t < 27) (hty : tw_ty t = .object C) (hcl : Cond.classLink own idx C ∈ tw_W) (hover : va_AO C s) (hn : ¬ n < 0) (hN : n.toNatClampNeg = N) (hb2 : N * 4 ≤ 536870912) (hc : cells + 1 ≤ R.cells) (hs : slots + N ≤ R.slots)
    (kk : tw_X p l e R s m args below meth c nL G (tw_new σ t N) (cells + 1) (slots + N) Q (pc + 3) lv (.ref σ.1 :: st)) : tw_X p l e R s m args below meth c nL G σ cells slots Q pc lv (.int n :: st) := by
  subst hN
  intro H locs ls hR hS hl
  obtain ⟨hx, hb, -, hown, hts, -, -, hK⟩ := h
  have hra := (hK.2.1 t (by omega) ht.2).2
  rw [hty] at hra
  obtain ⟨-, -, -, -, -, hra4⟩ := hra
  refine W.anew hx hb hown (hts _ hcl) (va_AO.use hover) rfl hd rfl hn hb2 hc hs fun cA kA comp f1 f2 f3 f4 => ?_
  have hcA : cA = G.2.1 t := Option.some.inj (f1.symm.trans hra4)
  subst hcA
  generalize hH1 : H.push ({ cls := G.2.1 t, slots := Array.replicate n.toNatClampNeg .null, vm := .none } : Cell) = H1
  have z1 : H1.size = H.size + 1 := by rw [← hH1, Array.size_push]
  have e1 : H1[H.size]? = some (arrV (G.2.1 t) n.toNatClampNeg (fun _ => .null)) := by rw [← hH1, Array.getElem?_push_size, ← arrV_new]
  have o1 : ∀ q : Nat, q < H.size → H1[q]? = H[q]? := fun q hq => by rw [← hH1, Array.getElem?_push, if_neg (Nat.ne_of_lt hq)]
  have hc1 : tw_cell G t n.toNatClampNeg σ.1 (fun j => if tw_isR t j = true then .null else .int 0) H1 := by
    rw [tw_cell_a (by omega), ← hR.1, e1]
    rcases (show t = 24 ∨ t = 25 ∨ t = 26 by omega) with rfl | rfl | rfl <;> rfl
  have := kk H1 locs ls (hR.add z1 o1 hc1) (tw_S.push hS (by omega) o1) hl
  rw [← hR.1] at this
  exact this
theorem tw_outer (c : ClassId) (N h0 : Nat) : ∀ i : Nat, Jvm.Free.Multi.outerC c N h0 i = arrV c N (fun j => va_rf (if j < i then some (h0 + 1 + j) else none))
  | 0 => by
    show ({ cls := c, slots := Array.replicate N .null, vm := .none } : Cell) = _
    rw [arrV_new]
    refine congrArg (arrV c N) (funext fun j => ?_)
    simp [va_rf]
  | i + 1 => by
    show (Jvm.Free.Multi.outerC c N h0 i).setSlot i (.ref (h0 + 1 + i)) = _
    rw [tw_outer c N h0 i, arrV_store]
    refine congrArg (arrV c N) (funext fun j => ?_)
    by_cases e : j = i
    · subst e
      simp [updV, va_rf]
    · by_cases h : j < i
      · simp [updV, e, h, Nat.lt_succ_of_lt h]
      · simp [updV, e, h, show ¬ j < i + 1 by omega]
theorem tw_mna {idx : Nat} {n k : Int32} {N K : Nat} (h : tw_O p s m args meth c cc own nL ret G) (hd : decode cc pc = .ok (.multianewarray idx 2, 4)) (hcl : Cond.classLink own idx ("[" ++ (FieldType.array .int).toString) ∈ tw_W) (harr : Cond.arrayClass .int ∈ tw_W) (hn : ¬ n < 0) (hk : ¬ k < 0) (hN : n.toNatClampNeg = N) (hM : k.toNatClampNeg = K)
    (hb1 : N * 4 ≤ 536870912) (hb2 : K * 4 ≤ 536870912) (hb3 : K ≤ 536870912) (hc : cells + (1 + N) ≤ R.cells) (hs : slots + (N + N * K) ≤ R.slots)
    (kk : tw_X p l e R s m args below meth c nL G (tw_grid σ N K) (cells + 1 + N) (slots + N + N * K) Q (pc + 4) lv (.ref σ.1 :: st)) : tw_X p l e R s m args below meth c nL G σ cells slots Q pc lv (.int k :: .int n :: st) := by
  subst hN
  subst hM
  intro H locs ls hR hS hl
  intro T hT Xs
  obtain ⟨hx, hb, -, hown, hts, -, -, hK⟩ := h
  have hover := hK.2.2.1.2.2.2.2.2.2.2.2.2
  obtain ⟨vm₁, cA, comp, -, fA, fC, hO, -, X', step⟩ := Xs.multianewarray2F hx hown (hts _ hcl) (va_AOA.use hover) (hts _ harr) (g := F0 m pc ls (.int k :: .int n :: st)) rfl (by rw [hb]; exact hd) rfl hn hk hb1 hb2 hb3 rfl rfl hc hs
  have ecA : cA = G.2.1 23 := Option.some.inj (fA.symm.trans (hK.2.1 23 (by decide) (by decide)).2)
  have ecI : comp = G.2.1 20 := Option.some.inj (fC.symm.trans (hK.2.1 20 (by decide) (by decide)).2)
  subst ecA
  subst ecI
  generalize hF : Jvm.Free.Multi.fill (T.setVm vm₁) (G.2.1 23) (G.2.1 20) n.toNatClampNeg k.toNatClampNeg (defaultValue .int) n.toNatClampNeg = F at X' step
  have hTh : (T.setVm vm₁).heap = H := hT
  obtain ⟨f1, f2, -, -⟩ := Jvm.Free.Multi.fill_facts (T.setVm vm₁) (G.2.1 23) (G.2.1 20) n.toNatClampNeg k.toNatClampNeg (defaultValue .int) n.toNatClampNeg
  rw [hF, hTh] at f1 f2
  have hold : ∀ x : Nat, x < H.size → F.heap[x]? = H[x]? := fun x hx => by
    have := Jvm.Free.Multi.fill_old (T.setVm vm₁) (G.2.1 23) (G.2.1 20) n.toNatClampNeg k.toNatClampNeg (defaultValue .int) (a := x) (by rw [hTh]; exact hx) n.toNatClampNeg
    rw [hF, hTh] at this
    exact this
  have hrow : ∀ j : Nat, j < n.toNatClampNeg → F.heap[H.size + 1 + j]? = some (arrV (G.2.1 20) k.toNatClampNeg (fun _ => .int 0)) := fun j hj => by
    have := Jvm.Free.Multi.fill_inner (T.setVm vm₁) (G.2.1 23) (G.2.1 20) n.toNatClampNeg k.toNatClampNeg (defaultValue .int) n.toNatClampNeg j hj
    rw [hF, hTh] at this
    rw [this, ← arrV_new]
    rfl
  rw [tw_outer] at f2
  have hsz := hR.1
  have hR1 : tw_R G (tw_grid σ n.toNatClampNeg k.toNatClampNeg) F.heap := by
    refine ⟨by rw [f1, hsz]; rfl, by have := hR.2.1; show G.2.2.2.2 ≤ σ.1 + 1 + n.toNatClampNeg; omega, fun b t' n' hb' => ?_⟩
    have hbase := hR.2.1
    by_cases e : b = σ.1
    · subst e
      simp only [tw_grid, if_true] at hb'
      cases hb'
      refine ⟨hR.2.1, ?_⟩
      rw [tw_cell_a (by decide), ← hsz, f2]
      refine congrArg (fun z => some (arrV (G.2.1 23) n.toNatClampNeg z)) (funext fun j => ?_)
      simp [tw_v, tw_isR, tw_grid, hsz]
    · by_cases e2 : σ.1 < b ∧ b < σ.1 + 1 + n.toNatClampNeg
      · simp only [tw_grid, if_neg e, if_pos e2] at hb'
        cases hb'
        refine ⟨by omega, ?_⟩
        have hr := hrow (b - (σ.1 + 1)) (by omega)
        rw [show H.size + 1 + (b - (σ.1 + 1)) = b by omega] at hr
        rw [tw_cell_a (by decide), hr]
        refine congrArg (fun z => some (arrV (G.2.1 20) k.toNatClampNeg z)) (funext fun j => ?_)
        simp [tw_v, tw_isR, tw_grid, show σ.1 ≤ b ∧ b < σ.1 + 1 + n.toNatClampNeg from ⟨by omega, e2.2⟩]
      · simp only [tw_grid, if_neg e, if_neg e2] at hb'
        obtain ⟨h1, h2⟩ := hR.2.2 b t' n' hb'
        have hlt := h2.lt
        refine ⟨h1, ?_⟩
        have e3 : ¬ (σ.1 ≤ b ∧ b < σ.1 + 1 + n.toNatClampNeg) := fun z => by omega
        have : tw_v t' (tw_grid σ n.toNatClampNeg k.toNatClampNeg).2.2.1 (tw_grid σ n.toNatClampNeg k.toNatClampNeg).2.2.2 b = tw_v t' σ.2.2.1 σ.2.2.2 b := by
          funext j; simp only [tw_v, tw_grid, if_neg e, if_neg e2, if_neg e3]
        rw [this]
        exact h2.kept (hold b hlt)
  obtain ⟨t, a1, b1⟩ := kk F.heap locs ls hR1 (tw_S.push hS (by omega) hold) hl F rfl X'
  refine ⟨t, step t ?_, b1⟩
  have e : T.heap.size = σ.1 := by rw [hT]; exact hsz
  rw [e]
  exact a1
theorem tw_cp_sp {b a : Nat} {sp dp n : Int32} (h : tw_cp σ b sp a dp n = some σ1) : ∃ n0 n1, σ.2.1 b = some (20, n0) ∧ σ.2.1 a = some (20, n1) ∧ ¬ sp < 0 ∧ ¬ dp < 0 ∧ ¬ n < 0 ∧ sp.toNatClampNeg + n.toNatClampNeg ≤ n0 ∧ dp.toNatClampNeg + n.toNatClampNeg ≤ n1 ∧ σ1 = (σ.1, σ.2.1, σ.2.2.1, fun c => if c = a then tw_cpI (σ.2.2.2 b) (σ.2.2.2 a) sp.toNatClampNeg dp.toNatClampNeg n.toNatClampNeg else σ.2.2.2 c) := by
  unfold tw_cp at h
  split at h
  · rename_i q z hq hz
    split at h
    · rename_i e
      exact ⟨q.2, z.2, by rw [hq, ← e.1], by rw [hz, ← e.2.1], e.2.2.1, e.2.2.2.1, e.2.2.2.2.1, e.2.2.2.2.2.1, e.2.2.2.2.2.2, (Option.some.inj h).symm⟩
    · cases h
  · cases h
theorem tw_copy {a b idx : Nat} {sp dp n : Int32} (h : tw_O p s m args meth c cc own nL ret G) (hd : decode cc pc = .ok (.invokestatic idx, 3)) (hlink : Cond.methodLink own idx arraycopyName ∈ tw_W) (hnat : Cond.native arraycopyName ∈ tw_W) (hstat : Cond.static arraycopyName ∈ tw_W) (hini : Cond.initialized "java/lang/System" ∈ tw_W)
    (hf : 1 ≤ R.frames) (hlo : (st.map fun v => v.category).sum + 18 ≤ R.locals) (ea : tw_cp σ b sp a dp n = some σ1) (kk : tw_X p l e R s m args below meth c nL G σ1 cells slots Q (pc + 3) lv st) : tw_X p l e R s m args below meth c nL G σ cells slots Q pc lv (.int n :: .int dp :: .ref a :: .int sp :: .ref b :: st) := by
  obtain ⟨n0, n1, hb0, ha0, h1, h2, h3, h4, h5, rfl⟩ := tw_cp_sp ea
  have nn : ∀ z : Int32, ¬ z < 0 → z.toInt = (z.toNatClampNeg : Int) := by
    intro z hz
    have hz0 : (0 : Int) ≤ z.toInt := by
      have := Int32.not_lt.mp hz
      simpa using Int32.le_iff_toInt_le.mp this
    show z.toInt = ((z.toInt.toNat : Nat) : Int)
    omega
  intro H locs ls hR hS hl
  obtain ⟨hc0, q0⟩ := tw_arr h hR (by decide) (by decide) hb0
  obtain ⟨hc1, q1⟩ := tw_arr h hR (by decide) (by decide) ha0
  obtain ⟨hx, hb, hml, hown, hts, -, -, hK⟩ := h
  have ev : ∀ x, tw_v 20 σ.2.2.1 σ.2.2.2 x = fun j => .int (σ.2.2.2 x j) := fun x => by funext j; simp [tw_v, tw_isR]
  rw [ev] at hc0 hc1 q0 q1
  obtain ⟨-, k0, hk0, cm0, hkk0⟩ := q0
  obtain ⟨-, k1, hk1, cm1, hkk1⟩ := q1
  intro T hT X
  obtain ⟨vm', X', step⟩ := X.arraycopy hx hown (hts _ hlink) (hts _ hnat) (hts _ hstat) (hts _ hini) (src := b) (dst := a) (cs := arrV (G.2.1 20) n0 (fun j => .int (σ.2.2.2 b j))) (cd := arrV (G.2.1 20) n1 (fun j => .int (σ.2.2.2 a j))) (srcPos := sp) (destPos := dp) (n := n) (by rw [hT]; exact hc0) (by rw [hT]; exact hc1)
    (fun _ h => by cases h) (fun _ h => by cases h) (fun h => by cases h) (fun h => by cases h) hk0 hk1 hkk0 hkk1 (by simp [refKind, tw_ty]) h1 h2 h3
    (by rw [nn sp h1, nn n h3, arrV_size]; omega)
    (by rw [nn dp h2, nn n h3, arrV_size]; omega)
    (fun vm₁ _ i hi => by
      have e : (arrV (G.2.1 20) n0 (fun j => .int (σ.2.2.2 b j))).slots.getD (sp.toNatClampNeg + i) .null = .int (σ.2.2.2 b (sp.toNatClampNeg + i)) := by
        rw [Array.getD_eq_getD_getElem?, arrV_read _ _ (by omega)]
        rfl
      refine ⟨?_, ?_⟩
      · rw [e]
        rfl
      · rw [e]
        exact trivial)
    (g := F0 m pc ls (.int n :: .int dp :: .ref a :: .int sp :: .ref b :: st)) rfl (by rw [hml]; exact hl.1) (rest := st) rfl (by rw [hb]; exact hd) hf (by show 2 * 0 + _ + (7 + 11) ≤ _; omega)
  have e1 : copied (arrV (G.2.1 20) n0 (fun j => .int (σ.2.2.2 b j))) (arrV (G.2.1 20) n1 (fun j => .int (σ.2.2.2 a j))) sp dp n = arrV (G.2.1 20) n1 (fun j => .int (va_cpy (σ.2.2.2 b) (σ.2.2.2 a) sp.toNatClampNeg dp.toNatClampNeg n.toNatClampNeg j)) := va_copied (fun z => .int z) (G.2.1 20) (G.2.1 20) (σ.2.2.2 b) (σ.2.2.2 a) h4
  rw [e1] at X' step
  have hla : a < H.size := (Array.getElem?_eq_some_iff.mp hc1).1
  generalize hcv : arrV (G.2.1 20) n1 (fun j => .int (va_cpy (σ.2.2.2 b) (σ.2.2.2 a) sp.toNatClampNeg dp.toNatClampNeg n.toNatClampNeg j)) = cv at X' step
  have hheap : ((T.setVm vm').setCell a cv).heap = H.setIfInBounds a cv := by rw [← hT]; rfl
  have oq : ∀ q : Nat, q ≠ a → (H.setIfInBounds a cv)[q]? = H[q]? := fun q hq => by simp [Array.getElem?_setIfInBounds, Ne.symm hq]
  have hbase := (hR.2.2 a _ _ ha0).1
  have hR1 : tw_R G (σ.1, σ.2.1, σ.2.2.1, fun c => if c = a then tw_cpI (σ.2.2.2 b) (σ.2.2.2 a) sp.toNatClampNeg dp.toNatClampNeg n.toNatClampNeg else σ.2.2.2 c) (H.setIfInBounds a cv) := by
    refine hR.put ha0 rfl rfl (by simp) oq (fun b' hb' t => by funext j; simp [tw_v, hb']) ?_
    rw [tw_cell_a (by decide), show (H.setIfInBounds a cv)[a]? = some cv by simp [Array.getElem?_setIfInBounds, hla], ← hcv]
    refine congrArg (fun z => some (arrV (G.2.1 20) n1 z)) (funext fun j => ?_)
    simp [tw_v, tw_isR, tw_cpI, va_cpy]
  obtain ⟨t, a1, b1⟩ := kk _ _ ls hR1 (⟨by simp; exact hS.1, fun q g1 g2 => by
      rw [oq q (fun e => g2 (by rw [e]; exact hbase))]
      exact hS.2.1 q g1 g2, fun q hq => by
      rcases List.mem_append.mp hq with h | h
      · exact hS.2.2 q h
      · obtain ⟨z, -, hz⟩ := List.mem_map.mp h
        rw [← hz]
        exact hbase⟩) hl _ hheap X'
  exact ⟨t, step t a1, b1⟩
/-- calls -/
def tw_CF (y : MethodName) (cc : ByteArray) (maxL : Nat) (ret : Option FieldType) (n : Nat) : Prop := Cond.code y cc maxL ret ∈ tw_W ∧ Cond.initialized y.cls ∈ tw_W ∧ y.cls ≠ "java/lang/invoke/MethodHandle" ∧ y.cls ≠ "java/lang/invoke/VarHandle" ∧ (parseMethodDescriptor y.desc).map (fun d => d.parameters.length) = some n
theorem tw_blind {av : List Value} : FrameBlind (va_Pc av (fun U => tw_R G σ U.heap ∧ tw_K G U U.heap)) := fun a U g mk q => by
  obtain ⟨q0, q1, q2⟩ := q
  exact ⟨q0, q1, tw_K.same (U := U.calling g mk a) rfl q2⟩
theorem tw_after {H : Heap} {locs : List Loc} {ls : Array Slot} {st0 : List Value} {a : Array Value} {mc ms : Nat} {rv : Option Value} (hr : va_Run p l e R s m args below meth c H locs cells slots mc ms (F0 m pc ls st0) st (tw_Qc G rv σ1 a) (tw_A G)) (hS : va_S (tw_A G) s.heap H locs) (hl : lv_has ls nL lv)
    (kk : tw_X p l e R s m args below meth c nL G σ1 (cells + mc) (slots + ms) Q (pc + 3) lv (rv.toList ++ st)) : W p l e R s m args below meth c H locs cells slots Q (F0 m pc ls st0) := by
  intro T hT X
  obtain ⟨v, st₀, t, T', L, h0, X', hL, e1, e2, ⟨⟨hv, hR⟩, hz, hk⟩, stp⟩ := hr T hT X
  obtain rfl := Outcome.returned.inj hv
  rw [h0] at hz hk
  obtain ⟨t2, a1, b1⟩ := kk T'.heap (locs ++ L) ls (by rw [e1]; exact hR) ⟨Nat.le_trans hS.1 (by rw [e1]; exact hz), fun q h1 h2 => by rw [e1, hk q (Nat.lt_of_lt_of_le h1 hS.1) h2]; exact hS.2.1 q h1 h2, fun q hq => by
      rcases List.mem_append.mp hq with h | h
      · exact hS.2.2 q h
      · exact hL q h⟩ hl T' rfl X'
  exact ⟨t2, stp t2 a1, b1⟩
theorem tw_pre {H : Heap} {locs : List Loc} (h : tw_O p s m args meth c cc own nL ret G) (hR : tw_R G σ H) (hS : va_S (tw_A G) s.heap H locs) (av : List Value) : ∀ U : State, U.heap = H → s.WarmedH U.vm → va_Pc av (fun U => tw_R G σ U.heap ∧ tw_K G U U.heap) av.toArray U :=
  fun U hU hW => ⟨rfl, by rw [hU]; exact hR, by rw [hU]; exact h.2.2.2.2.2.2.2.moved hW hS.2.1⟩
theorem tw_callV {y : MethodName} {cc' : ByteArray} {maxL n t b idx mc ms : Nat} {ret' : Option FieldType} {rm : Room} {As st0 : List Value} {rv : Option Value} {r : vw_C} {u : Unit} (h : tw_O p s m args meth c cc own nL ret G) (hM : tw_M l G y cc' maxL ret' rm mc ms σ (.ref b :: As) rv σ1) (hC : tw_CF y cc' maxL ret' n) (ht : vwCl[t]? = some r) (hb : tw_is σ t b = some u)
    (hl : Cond.methodLink own idx y ∈ tw_W) (hi : Cond.instanceMethod y ∈ tw_W) (hse : Cond.selects r.1 y y ∈ tw_W) (hst : st0 = As.reverse ++ .ref b :: st) (hn : As.length = n) (hrc : rm.cells = mc) (hrs : rm.slots = ms) (hR : rm.frames + 1 ≤ R.frames ∧ 8 + (maxL + 11) + rm.locals ≤ R.locals) (hW : (st.map fun v => v.category).sum ≤ 8) (hcs : cells + mc ≤ R.cells ∧ slots + ms ≤ R.slots) (hd : decode cc pc = .ok (.invokevirtual idx, 3))
    (kk : tw_X p l e R s m args below meth c nL G σ1 (cells + mc) (slots + ms) Q (pc + 3) lv (rv.toList ++ st)) : tw_X p l e R s m args below meth c nL G σ cells slots Q pc lv st0 := by
  intro H locs ls hRR hS hlv
  obtain ⟨n0, hb0⟩ := tw_is_sp hb
  have hcb := (hRR.2.2 b t n0 hb0).2
  rw [tw_cell_o ht] at hcb
  obtain ⟨cellB, v1, v2, v3, -⟩ := hcb
  have hts := h.2.2.2.2.1
  have hfc := (h.2.2.2.2.2.2.2.1 t r ht).2.1
  exact tw_after (va_runV ⟨h.1, h.2.1, h.2.2.1, h.2.2.2.1, hts⟩ hM ⟨⟨hrc, hrs, hR.1, hR.2, tw_pay hts (fun w hw => (List.mem_cons.mp hw).elim (fun e => by rw [e]; exact hC.1) id), List.mem_cons_self, hts _ hC.1, hts _ hC.2.1, ⟨hC.2.2.1, hC.2.2.2.1⟩, fun sig hsig => by have := hC.2.2.2.2; rw [hsig] at this; exact (Option.some.inj this).symm, hts _ hl⟩, hts _ hi, hts _ hse⟩
    ⟨tw_blind, ⟨cellB, v1, by rw [v3]; rfl, by rw [v2]; exact hfc⟩, tw_pre h hRR hS _⟩ rfl hn hlv.1 hst (lv_room hW) hd hcs) hS hlv kk
theorem tw_callS {y : MethodName} {cc' : ByteArray} {maxL n idx mc ms : Nat} {ret' : Option FieldType} {rm : Room} {As st0 : List Value} {rv : Option Value} (h : tw_O p s m args meth c cc own nL ret G) (hM : tw_M l G y cc' maxL ret' rm mc ms σ As rv σ1) (hC : tw_CF y cc' maxL ret' n)
    (hl : Cond.methodLink own idx y ∈ tw_W) (hi : Cond.static y ∈ tw_W) (hst : st0 = As.reverse ++ st) (hn : As.length = n) (hrc : rm.cells = mc) (hrs : rm.slots = ms) (hR : rm.frames + 1 ≤ R.frames ∧ 8 + (maxL + 11) + rm.locals ≤ R.locals) (hW : (st.map fun v => v.category).sum ≤ 8) (hcs : cells + mc ≤ R.cells ∧ slots + ms ≤ R.slots) (hd : decode cc pc = .ok (.invokestatic idx, 3))
    (kk : tw_X p l e R s m args below meth c nL G σ1 (cells + mc) (slots + ms) Q (pc + 3) lv (rv.toList ++ st)) : tw_X p l e R s m args below meth c nL G σ cells slots Q pc lv st0 := by
  intro H locs ls hRR hS hlv
  have hts := h.2.2.2.2.1
  exact tw_after (va_runS ⟨h.1, h.2.1, h.2.2.1, h.2.2.2.1, hts⟩ hM ⟨⟨hrc, hrs, hR.1, hR.2, tw_pay hts (fun w hw => (List.mem_cons.mp hw).elim (fun e => by rw [e]; exact hC.1) id), List.mem_cons_self, hts _ hC.1, hts _ hC.2.1, ⟨hC.2.2.1, hC.2.2.2.1⟩, fun sig hsig => by have := hC.2.2.2.2; rw [hsig] at this; exact (Option.some.inj this).symm, hts _ hl⟩, hts _ hi⟩
    ⟨tw_blind, tw_pre h hRR hS _⟩ rfl hn hlv.1 hst (lv_room hW) hd hcs) hS hlv kk
theorem tw_callI {y : MethodName} {cc' : ByteArray} {maxL n b idx mc ms : Nat} {rm : Room} {As st0 : List Value} {rv : Option Value} (h : tw_O p s m args meth c cc own nL ret G) (hM : tw_M l G y cc' maxL none rm mc ms σ (.ref b :: As) rv σ1) (hC : tw_CF y cc' maxL none n) (hy : y.name = "<init>")
    (hl : Cond.methodLink own idx y ∈ tw_W) (hi : Cond.instanceMethod y ∈ tw_W) (hst : st0 = As.reverse ++ .ref b :: st) (hn : As.length = n) (hrc : rm.cells = mc) (hrs : rm.slots = ms) (hR : rm.frames + 1 ≤ R.frames ∧ 8 + (maxL + 11) + rm.locals ≤ R.locals) (hW : (st.map fun v => v.category).sum ≤ 8) (hcs : cells + mc ≤ R.cells ∧ slots + ms ≤ R.slots) (hd : decode cc pc = .ok (.invokespecial idx, 3))
    (kk : tw_X p l e R s m args below meth c nL G σ1 (cells + mc) (slots + ms) Q (pc + 3) lv (rv.toList ++ st)) : tw_X p l e R s m args below meth c nL G σ cells slots Q pc lv st0 := by
  intro H locs ls hRR hS hlv
  have hts := h.2.2.2.2.1
  exact tw_after (va_runI ⟨h.1, h.2.1, h.2.2.1, h.2.2.2.1, hts⟩ hM ⟨⟨hrc, hrs, hR.1, hR.2, tw_pay hts (fun w hw => (List.mem_cons.mp hw).elim (fun e => by rw [e]; exact hC.1) id), List.mem_cons_self, hts _ hC.1, hts _ hC.2.1, ⟨hC.2.2.1, hC.2.2.2.1⟩, fun sig hsig => by have := hC.2.2.2.2; rw [hsig] at this; exact (Option.some.inj this).symm, hts _ hl⟩, hy, hts _ hi⟩
    ⟨tw_blind, tw_pre h hRR hS _⟩ rfl hn hlv.1 hst (lv_room hW) hd hcs) hS hlv kk
theorem tw_callIN {y : MethodName} {host : String} {cc' : ByteArray} {maxL n b idx mc ms : Nat} {rm : Room} {As st0 : List Value} {rv : Option Value} (h : tw_O p s m args meth c cc own nL ret G) (hM : tw_M l G y cc' maxL none rm mc ms σ (.ref b :: As) rv σ1) (hC : tw_CF y cc' maxL none n) (hy : y.name = "<init>")
    (hl : va_Nw (.methodLinkNest own idx y host) s) (hi : Cond.instanceMethod y ∈ tw_W) (hst : st0 = As.reverse ++ .ref b :: st) (hn : As.length = n) (hrc : rm.cells = mc) (hrs : rm.slots = ms) (hR : rm.frames + 1 ≤ R.frames ∧ 8 + (maxL + 11) + rm.locals ≤ R.locals) (hW : (st.map fun v => v.category).sum ≤ 8) (hcs : cells + mc ≤ R.cells ∧ slots + ms ≤ R.slots) (hd : decode cc pc = .ok (.invokespecial idx, 3))
    (kk : tw_X p l e R s m args below meth c nL G σ1 (cells + mc) (slots + ms) Q (pc + 3) lv (rv.toList ++ st)) : tw_X p l e R s m args below meth c nL G σ cells slots Q pc lv st0 := by
  intro H locs ls hRR hS hlv
  have hts := h.2.2.2.2.1
  exact tw_after (va_runIN (host := host) ⟨h.1, h.2.1, h.2.2.1, h.2.2.2.1, hts⟩ hM ⟨⟨⟨hrc, hrs, hR.1, hR.2, tw_pay hts (fun w hw => (List.mem_cons.mp hw).elim (fun e => by rw [e]; exact hC.1) id), List.mem_cons_self⟩, hts _ hC.1, hts _ hC.2.1, ⟨hC.2.2.1, hC.2.2.2.1⟩, fun sig hsig => by have := hC.2.2.2.2; rw [hsig] at this; exact (Option.some.inj this).symm, va_Nw.use rfl hl⟩, hy, hts _ hi⟩
    ⟨tw_blind, tw_pre h hRR hS _⟩ rfl hn hlv.1 hst (lv_room hW) hd hcs) hS hlv kk
theorem tw_objI {b idx : Nat} (h : tw_O p s m args meth c cc own nL ret G) (hd : decode cc pc = .ok (.invokespecial idx, 3)) (hl : Cond.methodLink own idx objectInit ∈ tw_W) (hi : Cond.instanceMethod objectInit ∈ tw_W) (hc : Cond.code objectInit ⟨#[0xb1]⟩ 1 none ∈ tw_W) (hf : 1 ≤ R.frames) (hlo : (st.map fun v => v.category).sum + 12 ≤ R.locals)
    (kk : tw_X p l e R s m args below meth c nL G σ cells slots Q (pc + 3) lv st) : tw_X p l e R s m args below meth c nL G σ cells slots Q pc lv (.ref b :: st) := by
  intro H locs ls hRR hS hlv
  have hts := h.2.2.2.2.1
  exact W.objInit h.1 h.2.1 h.2.2.2.1 (hts _ hl) (hts _ hi) (hts _ hc) rfl (by rw [h.2.2.1]; exact hlv.1) rfl hd hf (by show 2 * 0 + _ + 12 ≤ _; omega) (kk H locs ls hRR hS hlv)
end TWN
