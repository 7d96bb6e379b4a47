theorem tw_cell_o {G : tw_G} {t n a : Nat} {V : Nat → Value} {H : Heap} {r : vw_C} (ht : vwCl[t]? = some r) : tw_cell G t n a V H = t_OB a (G.1.1 t) r.2.2 (G.1.2 t) H V := by unfold tw_cell; rw [ht]
theorem tw_cell_a {G : tw_G} {t n a : Nat} {V : Nat → Value} {H : Heap} (ht : 20 ≤ t) : tw_cell G t n a V H = (H[a]? = some (arrV (G.2.1 t) n V)) := by
  unfold tw_cell
  rw [List.getElem?_eq_none (by show vwCl.length ≤ t; exact Nat.le_trans (by decide) ht)]
theorem tw_cell.kept {G : tw_G} {t n a : Nat} {V : Nat → Value} {H H1 : Heap} (h : tw_cell G t n a V H) (hq : H1[a]? = H[a]?) : tw_cell G t n a V H1 := by
  unfold tw_cell at h ⊢
  split at h
  · exact h.kept hq
  · exact hq.trans h
theorem tw_cell.lt {G : tw_G} {t n a : Nat} {V : Nat → Value} {H : Heap} (h : tw_cell G t n a V H) : a < H.size := by
  unfold tw_cell at h
  split at h
  · obtain ⟨cell, h2, -⟩ := h
    exact (Array.getElem?_eq_some_iff.mp h2).1
  · exact (Array.getElem?_eq_some_iff.mp h).1
theorem tw_R.put {G : tw_G} {σ σ1 : tw_St} {H H1 : Heap} {a t n : Nat} (hR : tw_R G σ H) (ha : σ.2.1 a = some (t, n)) (h1 : σ1.1 = σ.1) (h2 : σ1.2.1 = σ.2.1) (hz : H1.size = H.size) (oq : ∀ q, q ≠ a → H1[q]? = H[q]?)
    (hv : ∀ b, b ≠ a → ∀ t, tw_v t σ1.2.2.1 σ1.2.2.2 b = tw_v t σ.2.2.1 σ.2.2.2 b) (hc : tw_cell G t n a (tw_v t σ1.2.2.1 σ1.2.2.2 a) H1) : tw_R G σ1 H1 := by
  refine ⟨by rw [hz, h1]; exact hR.1, by rw [h1]; exact hR.2.1, fun b t' n' hb => ?_⟩
  rw [h2] at hb
  by_cases e : b = a
  · subst e
    rw [ha] at hb
    cases hb
    exact ⟨(hR.2.2 b t n ha).1, hc⟩
  · refine ⟨(hR.2.2 b t' n' hb).1, ?_⟩
    rw [hv b e]
    exact (hR.2.2 b t' n' hb).2.kept (oq b e)
theorem tw_vI_ne {P : Nat → Nat → Option Nat} {I : Nat → Nat → Int32} {a k : Nat} {x : Int32} (b : Nat) (e : b ≠ a) (t : Nat) : tw_v t P (tw_up I a k x) b = tw_v t P I b := by
  funext j; simp [tw_v, tw_up, e]
theorem tw_vP_ne {P : Nat → Nat → Option Nat} {I : Nat → Nat → Int32} {a k : Nat} {x : Option Nat} (b : Nat) (e : b ≠ a) (t : Nat) : tw_v t (tw_up P a k x) I b = tw_v t P I b := by
  funext j; simp [tw_v, tw_up, e]
theorem tw_vI_eq {P : Nat → Nat → Option Nat} {I : Nat → Nat → Int32} {a k t : Nat} {x : Int32} (h : tw_isR t k = false) : tw_v t P (tw_up I a k x) a = updV (tw_v t P I a) k (.int x) := by
  funext j
  by_cases e : j = k
  · subst e; simp [tw_v, tw_up, updV, h]
  · simp [tw_v, tw_up, updV, e]
theorem tw_vP_eq {P : Nat → Nat → Option Nat} {I : Nat → Nat → Int32} {a k t x : Nat} (h : tw_isR t k = true) : tw_v t (tw_up P a k (some x)) I a = updV (tw_v t P I a) k (.ref x) := by
  funext j
  by_cases e : j = k
  · subst e; simp [tw_v, tw_up, updV, h, va_rf]
  · simp [tw_v, tw_up, updV, e]
theorem tw_lay0 : ∀ r ∈ vwCl, (∀ w ∈ u_ws r.1 r.2.1 r.2.2, w ∈ lw_tbl) ∧ (u_ws r.1 r.2.1 r.2.2).all goodWord = true := by
  intro r hr
  simp only [vwCl, List.mem_cons, List.not_mem_nil, or_false] at hr
  rcases hr with rfl | rfl | rfl | rfl | rfl | rfl | rfl | rfl | rfl <;> exact ⟨by decide +kernel, by decide +kernel⟩
theorem tw_lay {t : Nat} {r : vw_C} (h : vwCl[t]? = some r) : ∀ w ∈ u_ws r.1 r.2.1 r.2.2, w ∈ tw_W := fun w hw =>
  List.mem_filter.mpr ⟨(tw_lay0 r (List.mem_of_getElem? h)).1 w hw, List.all_eq_true.mp (tw_lay0 r (List.mem_of_getElem? h)).2 w hw⟩
theorem tw_nm0 : ∀ r ∈ vwCl, ∀ a, a < r.2.2 → ∀ b, b < r.2.2 → a ≠ b → (r.2.1 a).2.1 ≠ (r.2.1 b).2.1 := by
  intro r hr
  simp only [vwCl, List.mem_cons, List.not_mem_nil, or_false] at hr
  rcases hr with rfl | rfl | rfl | rfl | rfl | rfl | rfl | rfl | rfl
  · exact nmX0
  · exact nmX1
  · exact nmX2
  · exact nmX3
  · exact nmX4
  · exact nmX5
  · exact nmX6
  · exact nmX7
  · exact nmX8
def tw_fty (t : Nat) : Nat → FieldType := match t with
  | 0 => tyX0
  | 1 => tyX1
  | 2 => tyX2
  | 3 => tyX3
  | 4 => tyX4
  | 5 => tyX5
  | 6 => tyX6
  | 7 => tyX7
  | _ => tyX8
theorem tw_fty_ok {t : Nat} {r : vw_C} (h : vwCl[t]? = some r) : ∀ k, k < r.2.2 → parseFieldDescriptor (r.2.1 k).2.2.1 = some (tw_fty t k) := by
  match t, h with
  | 0, h => cases h; exact tyX0_ok
  | 1, h => cases h; exact tyX1_ok
  | 2, h => cases h; exact tyX2_ok
  | 3, h => cases h; exact tyX3_ok
  | 4, h => cases h; exact tyX4_ok
  | 5, h => cases h; exact tyX5_ok
  | 6, h => cases h; exact tyX6_ok
  | 7, h => cases h; exact tyX7_ok
  | 8, h => cases h; exact tyX8_ok
  | t + 9, h => simp at h
theorem tw_fty_df {t : Nat} {r : vw_C} (h : vwCl[t]? = some r) : ∀ k, k < r.2.2 → defaultValue (tw_fty t k) = if tw_isR t k = true then .null else .int 0 := by
  match t, h with
  | 0, h => cases h; decide +kernel
  | 1, h => cases h; decide +kernel
  | 2, h => cases h; decide +kernel
  | 3, h => cases h; decide +kernel
  | 4, h => cases h; decide +kernel
  | 5, h => cases h; decide +kernel
  | 6, h => cases h; decide +kernel
  | 7, h => cases h; decide +kernel
  | 8, h => cases h; decide +kernel
  | t + 9, h => simp at h
def tw_O (p : Program) (s : State) (m : MethodId) (args : Array Value) (meth : Method) (c : Code) (cc : ByteArray) (own : String) (nL : Nat) (ret : Option FieldType) (G : tw_G) : Prop :=
  p.tables.exec = Jvm.exec ∧ c.code = cc ∧ c.maxLocals = nL ∧ s.vm.findClass own = some m.cls ∧ (∀ w ∈ tw_W, w.before args s = true) ∧ meth.locks = false ∧ meth.sig.returnType = ret ∧ tw_K G s s.heap
def tw_X (p : Program) (l : Launch) (e : Env) (R : Room) (s : State) (m : MethodId) (args : Array Value) (below : List Frame) (meth : Method) (c : Code) (nL : Nat) (G : tw_G) (σ : tw_St) (cells slots : Nat) (Q : State → Prop) (pc : Nat) (lv : List (Nat × Value)) (st : List Value) : Prop :=
  ∀ (H : Heap) (locs : List Loc) (ls : Array Slot), tw_R G σ H → va_S (tw_A G) s.heap H locs → lv_has ls nL lv → W p l e R s m args below meth c H locs cells slots Q (F0 m pc ls st)
def tw_Qc (G : tw_G) (rv : Option Value) (σ' : tw_St) : Array Value → State → Outcome → State → Prop := fun _ st o t => (o = .returned rv ∧ tw_R G σ' t.heap) ∧ va_F (tw_A G) st t
def tw_Q (below : List Frame) (args : Array Value) (s : State) (G : tw_G) (mc ms : Nat) (rv : Option Value) (σ' : tw_St) : State → Prop := MQ below (tw_Qc G rv σ') args s mc ms (tw_A G)
def tw_M (l : Launch) (G : tw_G) (y : MethodName) (cc : ByteArray) (maxL : Nat) (ret : Option FieldType) (rm : Room) (mc ms : Nat) (σ : tw_St) (av : List Value) (rv : Option Value) (σ' : tw_St) : Prop :=
  Met l y (Cond.code y cc maxL ret :: tw_W) rm (va_Pc av (fun U => tw_R G σ U.heap ∧ tw_K G U U.heap)) (tw_Qc G rv σ') mc ms (tw_A G)
section TWR
variable {p : Program} {l : Launch} {e : Env} {R : Room} {s : State} {m : MethodId} {args : Array Value} {below : List Frame} {meth : Method} {c : Code} {cells slots : Nat} {Q : State → Prop}
variable {cc : ByteArray} {own : String} {nL : Nat} {ret : Option FieldType} {G : tw_G} {σ σ1 : tw_St} {pc : Nat} {lv lv' : List (Nat × Value)} {st : List Value}
theorem tw_M.of {y : MethodName} {maxL : Nat} {rm : Room} {mc ms : Nat} {av : List Value} {rv : Option Value} (hy : plainName y.cls = true) (hp : (lg_sl av).length ≤ maxL)
    (body : ∀ p e s m args below meth c, meth.name = y.name → tw_O p s m args meth c cc y.cls maxL ret G → tw_X p l e rm s m args below meth c maxL G σ 0 0 (tw_Q below args s G mc ms rv σ1) 0 (lv_args 0 av) []) : tw_M l G y cc maxL ret rm mc ms σ av rv σ1 := by
  refine Met.ofW (cc := cc) (maxL := maxL) (ret := ret) hy rfl ?_
  intro p e s m args below meth c s₁ B hml hv
  obtain ⟨rfl, hR, hK⟩ := hv
  have hts := atoms_spec (ws := Cond.code y cc maxL ret :: tw_W) B.pre
  have hl := lv_entry av (n := maxL) hp
  rw [lg_entry_eq]
  exact body p e s m _ below meth c (name_of_methodNamed B.named B.method).1 ⟨B.exec, B.bytes, hml, findClass_of_methodNamed B.named, fun w hw => hts w (List.mem_cons_of_mem _ hw), B.notSynchronized, B.returns, hK⟩ s.heap [] _ hR va_S.rf hl
theorem tw_M.ofF {y : MethodName} {maxL : Nat} {rm : Room} {mc ms : Nat} {av : List Value} {rv : Option Value} (hy : plainFor y = true) (hp : (lg_sl av).length ≤ maxL)
    (body : ∀ p e s m args below meth c, meth.name = y.name → tw_O p s m args meth c cc y.cls maxL ret G → tw_X p l e rm s m args below meth c maxL G σ 0 0 (tw_Q below args s G mc ms rv σ1) 0 (lv_args 0 av) []) : tw_M l G y cc maxL ret rm mc ms σ av rv σ1 := by
  refine va_MetF (cc := cc) (maxL := maxL) (ret := ret) hy rfl ?_
  intro p e s m args below meth c s₁ B hml hv
  obtain ⟨rfl, hR, hK⟩ := hv
  have hts := atoms_spec (ws := Cond.code y cc maxL ret :: tw_W) B.pre
  have hl := lv_entry av (n := maxL) hp
  rw [lg_entry_eq]
  exact body p e s m _ below meth c (name_of_methodNamed B.named B.method).1 ⟨B.exec, B.bytes, hml, findClass_of_methodNamed B.named, fun w hw => hts w (List.mem_cons_of_mem _ hw), B.notSynchronized, B.returns, hK⟩ s.heap [] _ hR va_S.rf hl
theorem tw_sub (ks : List Nat) (hl : lv_pick lv ks = lv') (k : tw_X p l e R s m args below meth c nL G σ cells slots Q pc lv' st) : tw_X p l e R s m args below meth c nL G σ cells slots Q pc lv st :=
  fun H locs ls hR hS h => k H locs ls hR hS (lv_sub h ks hl)
theorem tw_wide {k n : Nat} (h1 : cells ≤ k) (h2 : slots ≤ n) (kk : tw_X p l e R s m args below meth c nL G σ k n Q pc lv st) : tw_X p l e R s m args below meth c nL G σ cells slots Q pc lv st :=
  fun H locs ls hR hS h => W.widen h1 h2 (kk H locs ls hR hS h)
theorem tw_iconst {n : Int} {v : Int32} (h : tw_O p s m args meth c cc own nL ret G) (hd : decode cc pc = .ok (.iconst n, 1)) (hv : Int32.ofInt n = v) (k : tw_X p l e R s m args below meth c nL G σ cells slots Q (pc + 1) lv (.int v :: st)) : tw_X p l e R s m args below meth c nL G σ cells slots Q pc lv st :=
  fun H locs ls hR hS hl => lv_iconst h.1 h.2.1 hd hv (k H locs ls hR hS hl)
theorem tw_bipush {n : Int} {v : Int32} (h : tw_O p s m args meth c cc own nL ret G) (hd : decode cc pc = .ok (.bipush n, 2)) (hv : (Int8.ofInt n).toInt32 = v) (k : tw_X p l e R s m args below meth c nL G σ cells slots Q (pc + 2) lv (.int v :: st)) : tw_X p l e R s m args below meth c nL G σ cells slots Q pc lv st :=
  fun H locs ls hR hS hl => lv_bipush h.1 h.2.1 hd hv (k H locs ls hR hS hl)
theorem tw_sipush {n : Int} {v : Int32} (h : tw_O p s m args meth c cc own nL ret G) (hd : decode cc pc = .ok (.sipush n, 3)) (hv : (Int16.ofInt n).toInt32 = v) (k : tw_X p l e R s m args below meth c nL G σ cells slots Q (pc + 3) lv (.int v :: st)) : tw_X p l e R s m args below meth c nL G σ cells slots Q pc lv st :=
  fun H locs ls hR hS hl => lv_sipush h.1 h.2.1 hd hv (k H locs ls hR hS hl)
theorem tw_lconst {n : Fin 2} {v : Int64} (h : tw_O p s m args meth c cc own nL ret G) (hd : decode cc pc = .ok (.lconst n, 1)) (hv : Int64.ofNat (n : Nat) = v) (k : tw_X p l e R s m args below meth c nL G σ cells slots Q (pc + 1) lv (.long v :: st)) : tw_X p l e R s m args below meth c nL G σ cells slots Q pc lv st :=
  fun H locs ls hR hS hl => lv_lconst h.1 h.2.1 hd hv (k H locs ls hR hS hl)
theorem tw_ldc2 {index : Nat} {v : Int64} (h : tw_O p s m args meth c cc own nL ret G) (hc : Jvm.Cond.constantLong own index v ∈ tw_W) (hd : decode cc pc = .ok (.ldc2_w index, 3)) (k : tw_X p l e R s m args below meth c nL G σ cells slots Q (pc + 3) lv (.long v :: st)) : tw_X p l e R s m args below meth c nL G σ cells slots Q pc lv st :=
  fun H locs ls hR hS hl => lv_ldc2 h.1 h.2.1 h.2.2.2.1 (h.2.2.2.2.1 _ hc) hd (k H locs ls hR hS hl)
theorem tw_iload_n {k : Fin 4} {i : Nat} {x : Int32} (q : Nat) (h : tw_O p s m args meth c cc own nL ret G) (hd : decode cc pc = .ok (.iload_n k, 1)) (hi : (k : Nat) = i) (hq : lv[q]? = some (i, .int x)) (kk : tw_X p l e R s m args below meth c nL G σ cells slots Q (pc + 1) lv (.int x :: st)) : tw_X p l e R s m args below meth c nL G σ cells slots Q pc lv st :=
  fun H locs ls hR hS hl => lv_iload_n h.1 h.2.1 hd hi (lv_at hl q hq) (kk H locs ls hR hS hl)
theorem tw_iload {i : Nat} {x : Int32} (q : Nat) (h : tw_O p s m args meth c cc own nL ret G) (hd : decode cc pc = .ok (.iload i, 2)) (hq : lv[q]? = some (i, .int x)) (kk : tw_X p l e R s m args below meth c nL G σ cells slots Q (pc + 2) lv (.int x :: st)) : tw_X p l e R s m args below meth c nL G σ cells slots Q pc lv st :=
  fun H locs ls hR hS hl => lv_iload h.1 h.2.1 hd (lv_at hl q hq) (kk H locs ls hR hS hl)
theorem tw_lload_n {k : Fin 4} {i : Nat} {x : Int64} (q : Nat) (h : tw_O p s m args meth c cc own nL ret G) (hd : decode cc pc = .ok (.lload_n k, 1)) (hi : (k : Nat) = i) (hq : lv[q]? = some (i, .long x)) (kk : tw_X p l e R s m args below meth c nL G σ cells slots Q (pc + 1) lv (.long x :: st)) : tw_X p l e R s m args below meth c nL G σ cells slots Q pc lv st :=
  fun H locs ls hR hS hl => lv_lload_n h.1 h.2.1 hd hi (lv_at hl q hq) (kk H locs ls hR hS hl)
theorem tw_lload {i : Nat} {x : Int64} (q : Nat) (h : tw_O p s m args meth c cc own nL ret G) (hd : decode cc pc = .ok (.lload i, 2)) (hq : lv[q]? = some (i, .long x)) (kk : tw_X p l e R s m args below meth c nL G σ cells slots Q (pc + 2) lv (.long x :: st)) : tw_X p l e R s m args below meth c nL G σ cells slots Q pc lv st :=
  fun H locs ls hR hS hl => lv_lload h.1 h.2.1 hd (lv_at hl q hq) (kk H locs ls hR hS hl)
theorem tw_aload_n {k : Fin 4} {i : Nat} {x : Nat} (q : Nat) (h : tw_O p s m args meth c cc own nL ret G) (hd : decode cc pc = .ok (.aload_n k, 1)) (hi : (k : Nat) = i) (hq : lv[q]? = some (i, .ref x)) (kk : tw_X p l e R s m args below meth c nL G σ cells slots Q (pc + 1) lv (.ref x :: st)) : tw_X p l e R s m args below meth c nL G σ cells slots Q pc lv st :=
  fun H locs ls hR hS hl => lv_aload_n h.1 h.2.1 hd hi (lv_at hl q hq) (kk H locs ls hR hS hl)
theorem tw_aload {i : Nat} {x : Nat} (q : Nat) (h : tw_O p s m args meth c cc own nL ret G) (hd : decode cc pc = .ok (.aload i, 2)) (hq : lv[q]? = some (i, .ref x)) (kk : tw_X p l e R s m args below meth c nL G σ cells slots Q (pc + 2) lv (.ref x :: st)) : tw_X p l e R s m args below meth c nL G σ cells slots Q pc lv st :=
  fun H locs ls hR hS hl => lv_aload h.1 h.2.1 hd (lv_at hl q hq) (kk H locs ls hR hS hl)
theorem tw_istore_n {k : Fin 4} {i : Nat} {x : Int32} (h : tw_O p s m args meth c cc own nL ret G) (hd : decode cc pc = .ok (.istore_n k, 1)) (hi : (k : Nat) = i) (hn : i < nL) (hl' : (i, Value.int x) :: lv.filter (fun q => !(q.1 == i) && !(q.1 + 1 == i && q.2.category == 2)) = lv') (kk : tw_X p l e R s m args below meth c nL G σ cells slots Q (pc + 1) lv' st) : tw_X p l e R s m args below meth c nL G σ cells slots Q pc lv (.int x :: st) :=
  fun H locs ls hR hS hl => lv_istore_n h.1 h.2.1 hd hi hl hn hl' (fun ls' h' => kk H locs ls' hR hS h')
theorem tw_istore {i : Nat} {x : Int32} (h : tw_O p s m args meth c cc own nL ret G) (hd : decode cc pc = .ok (.istore i, 2)) (hn : i < nL) (hl' : (i, Value.int x) :: lv.filter (fun q => !(q.1 == i) && !(q.1 + 1 == i && q.2.category == 2)) = lv') (kk : tw_X p l e R s m args below meth c nL G σ cells slots Q (pc + 2) lv' st) : tw_X p l e R s m args below meth c nL G σ cells slots Q pc lv (.int x :: st) :=
  fun H locs ls hR hS hl => lv_istore h.1 h.2.1 hd hl hn hl' (fun ls' h' => kk H locs ls' hR hS h')
theorem tw_lstore_n {k : Fin 4} {i : Nat} {x : Int64} (h : tw_O p s m args meth c cc own nL ret G) (hd : decode cc pc = .ok (.lstore_n k, 1)) (hi : (k : Nat) = i) (hn : i + 1 < nL) (hl' : (i, Value.long x) :: lv.filter (fun q => !(q.1 == i) && (!(q.1 == i + 1) && !(q.1 + 1 == i && q.2.category == 2))) = lv') (kk : tw_X p l e R s m args below meth c nL G σ cells slots Q (pc + 1) lv' st) : tw_X p l e R s m args below meth c nL G σ cells slots Q pc lv (.long x :: st) :=
  fun H locs ls hR hS hl => lv_lstore_n h.1 h.2.1 hd hi hl hn hl' (fun ls' h' => kk H locs ls' hR hS h')
theorem tw_lstore {i : Nat} {x : Int64} (h : tw_O p s m args meth c cc own nL ret G) (hd : decode cc pc = .ok (.lstore i, 2)) (hn : i + 1 < nL) (hl' : (i, Value.long x) :: lv.filter (fun q => !(q.1 == i) && (!(q.1 == i + 1) && !(q.1 + 1 == i && q.2.category == 2))) = lv') (kk : tw_X p l e R s m args below meth c nL G σ cells slots Q (pc + 2) lv' st) : tw_X p l e R s m args below meth c nL G σ cells slots Q pc lv (.long x :: st) :=
  fun H locs ls hR hS hl => lv_lstore h.1 h.2.1 hd hl hn hl' (fun ls' h' => kk H locs ls' hR hS h')
theorem tw_astore_n {k : Fin 4} {i : Nat} {x : Nat} (h : tw_O p s m args meth c cc own nL ret G) (hd : decode cc pc = .ok (.astore_n k, 1)) (hi : (k : Nat) = i) (hn : i < nL) (hl' : (i, Value.ref x) :: lv.filter (fun q => !(q.1 == i) && !(q.1 + 1 == i && q.2.category == 2)) = lv') (kk : tw_X p l e R s m args below meth c nL G σ cells slots Q (pc + 1) lv' st) : tw_X p l e R s m args below meth c nL G σ cells slots Q pc lv (.ref x :: st) :=
  fun H locs ls hR hS hl => lv_astore_n h.1 h.2.1 hd hi hl hn hl' (fun ls' h' => kk H locs ls' hR hS h')
theorem tw_astore {i : Nat} {x : Nat} (h : tw_O p s m args meth c cc own nL ret G) (hd : decode cc pc = .ok (.astore i, 2)) (hn : i < nL) (hl' : (i, Value.ref x) :: lv.filter (fun q => !(q.1 == i) && !(q.1 + 1 == i && q.2.category == 2)) = lv') (kk : tw_X p l e R s m args below meth c nL G σ cells slots Q (pc + 2) lv' st) : tw_X p l e R s m args below meth c nL G σ cells slots Q pc lv (.ref x :: st) :=
  fun H locs ls hR hS hl => lv_astore h.1 h.2.1 hd hl hn hl' (fun ls' h' => kk H locs ls' hR hS h')
theorem tw_iinc {i q : Nat} {n : Int} {x v : Int32} (h : tw_O p s m args meth c cc own nL ret G) (hd : decode cc pc = .ok (.iinc i n, 3)) (hq : lv[q]? = some (i, .int x)) (hv : x + Int32.ofInt n = v) (hn : i < nL) (hl' : (i, Value.int v) :: lv.filter (fun q => !(q.1 == i) && !(q.1 + 1 == i && q.2.category == 2)) = lv') (kk : tw_X p l e R s m args below meth c nL G σ cells slots Q (pc + 3) lv' st) : tw_X p l e R s m args below meth c nL G σ cells slots Q pc lv st :=
  fun H locs ls hR hS hl => lv_iinc h.1 h.2.1 hd hl hq hv hn hl' (fun ls' h' => kk H locs ls' hR hS h')
theorem tw_iadd {x y : Int32} (h : tw_O p s m args meth c cc own nL ret G) (hd : decode cc pc = .ok (.iadd, 1)) (k : tw_X p l e R s m args below meth c nL G σ cells slots Q (pc + 1) lv (.int (x + y) :: st)) : tw_X p l e R s m args below meth c nL G σ cells slots Q pc lv (.int y :: .int x :: st) :=
  fun H locs ls hR hS hl => lv_iadd h.1 h.2.1 hd (k H locs ls hR hS hl)
theorem tw_isub {x y : Int32} (h : tw_O p s m args meth c cc own nL ret G) (hd : decode cc pc = .ok (.isub, 1)) (k : tw_X p l e R s m args below meth c nL G σ cells slots Q (pc + 1) lv (.int (x - y) :: st)) : tw_X p l e R s m args below meth c nL G σ cells slots Q pc lv (.int y :: .int x :: st) :=
  fun H locs ls hR hS hl => lv_isub h.1 h.2.1 hd (k H locs ls hR hS hl)
theorem tw_imul {x y : Int32} (h : tw_O p s m args meth c cc own nL ret G) (hd : decode cc pc = .ok (.imul, 1)) (k : tw_X p l e R s m args below meth c nL G σ cells slots Q (pc + 1) lv (.int (x * y) :: st)) : tw_X p l e R s m args below meth c nL G σ cells slots Q pc lv (.int y :: .int x :: st) :=
  fun H locs ls hR hS hl => lv_imul h.1 h.2.1 hd (k H locs ls hR hS hl)
theorem tw_iand {x y : Int32} (h : tw_O p s m args meth c cc own nL ret G) (hd : decode cc pc = .ok (.iand, 1)) (k : tw_X p l e R s m args below meth c nL G σ cells slots Q (pc + 1) lv (.int (x &&& y) :: st)) : tw_X p l e R s m args below meth c nL G σ cells slots Q pc lv (.int y :: .int x :: st) :=
  fun H locs ls hR hS hl => lv_iand h.1 h.2.1 hd (k H locs ls hR hS hl)
theorem tw_ixor {x y : Int32} (h : tw_O p s m args meth c cc own nL ret G) (hd : decode cc pc = .ok (.ixor, 1)) (k : tw_X p l e R s m args below meth c nL G σ cells slots Q (pc + 1) lv (.int (x ^^^ y) :: st)) : tw_X p l e R s m args below meth c nL G σ cells slots Q pc lv (.int y :: .int x :: st) :=
  fun H locs ls hR hS hl => lv_ixor h.1 h.2.1 hd (k H locs ls hR hS hl)
theorem tw_land {x y : Int64} (h : tw_O p s m args meth c cc own nL ret G) (hd : decode cc pc = .ok (.land, 1)) (k : tw_X p l e R s m args below meth c nL G σ cells slots Q (pc + 1) lv (.long (x &&& y) :: st)) : tw_X p l e R s m args below meth c nL G σ cells slots Q pc lv (.long y :: .long x :: st) :=
  fun H locs ls hR hS hl => lv_land h.1 h.2.1 hd (k H locs ls hR hS hl)
theorem tw_lor {x y : Int64} (h : tw_O p s m args meth c cc own nL ret G) (hd : decode cc pc = .ok (.lor, 1)) (k : tw_X p l e R s m args below meth c nL G σ cells slots Q (pc + 1) lv (.long (x ||| y) :: st)) : tw_X p l e R s m args below meth c nL G σ cells slots Q pc lv (.long y :: .long x :: st) :=
  fun H locs ls hR hS hl => lv_lor h.1 h.2.1 hd (k H locs ls hR hS hl)
theorem tw_irem {x y : Int32} (h : tw_O p s m args meth c cc own nL ret G) (hd : decode cc pc = .ok (.irem, 1)) (hne : ¬ y = 0) (k : tw_X p l e R s m args below meth c nL G σ cells slots Q (pc + 1) lv (.int (x - x / y * y) :: st)) : tw_X p l e R s m args below meth c nL G σ cells slots Q pc lv (.int y :: .int x :: st) :=
  fun H locs ls hR hS hl => lv_irem h.1 h.2.1 hd hne (k H locs ls hR hS hl)
theorem tw_i2l {x : Int32} (h : tw_O p s m args meth c cc own nL ret G) (hd : decode cc pc = .ok (.i2l, 1)) (k : tw_X p l e R s m args below meth c nL G σ cells slots Q (pc + 1) lv (.long (x.toInt64) :: st)) : tw_X p l e R s m args below meth c nL G σ cells slots Q pc lv (.int x :: st) :=
  fun H locs ls hR hS hl => lv_i2l h.1 h.2.1 hd rfl (k H locs ls hR hS hl)
theorem tw_l2i {x : Int64} (h : tw_O p s m args meth c cc own nL ret G) (hd : decode cc pc = .ok (.l2i, 1)) (k : tw_X p l e R s m args below meth c nL G σ cells slots Q (pc + 1) lv (.int (x.toInt32) :: st)) : tw_X p l e R s m args below meth c nL G σ cells slots Q pc lv (.long x :: st) :=
  fun H locs ls hR hS hl => lv_l2i h.1 h.2.1 hd rfl (k H locs ls hR hS hl)
theorem tw_i2c {x : Int32} (h : tw_O p s m args meth c cc own nL ret G) (hd : decode cc pc = .ok (.i2c, 1)) (k : tw_X p l e R s m args below meth c nL G σ cells slots Q (pc + 1) lv (.int ((x.toUInt32 % 65536).toInt32) :: st)) : tw_X p l e R s m args below meth c nL G σ cells slots Q pc lv (.int x :: st) :=
  fun H locs ls hR hS hl => lv_i2c h.1 h.2.1 hd rfl (k H locs ls hR hS hl)
theorem tw_lushr {x : Int64} {y : Int32} (h : tw_O p s m args meth c cc own nL ret G) (hd : decode cc pc = .ok (.lushr, 1)) (k : tw_X p l e R s m args below meth c nL G σ cells slots Q (pc + 1) lv (.long ((x.toUInt64 >>> (y.toInt64.toUInt64 &&& Int64.toUInt64 63)).toInt64) :: st)) : tw_X p l e R s m args below meth c nL G σ cells slots Q pc lv (.int y :: .long x :: st) :=
  fun H locs ls hR hS hl => lv_lushr h.1 h.2.1 hd rfl (k H locs ls hR hS hl)
theorem tw_lshl {x : Int64} {y : Int32} (h : tw_O p s m args meth c cc own nL ret G) (hd : decode cc pc = .ok (.lshl, 1)) (k : tw_X p l e R s m args below meth c nL G σ cells slots Q (pc + 1) lv (.long (x <<< (y.toInt64 &&& 63)) :: st)) : tw_X p l e R s m args below meth c nL G σ cells slots Q pc lv (.int y :: .long x :: st) :=
  fun H locs ls hR hS hl => lv_lshl h.1 h.2.1 hd rfl (k H locs ls hR hS hl)
theorem tw_lcmp {x y : Int64} (h : tw_O p s m args meth c cc own nL ret G) (hd : decode cc pc = .ok (.lcmp, 1)) (k : tw_X p l e R s m args below meth c nL G σ cells slots Q (pc + 1) lv (.int (lg_cmp x y) :: st)) : tw_X p l e R s m args below meth c nL G σ cells slots Q pc lv (.long y :: .long x :: st) :=
  fun H locs ls hR hS hl => W.lcmp h.1 h.2.1 hd (k H locs ls hR hS hl)
theorem tw_dup {v : Value} (h : tw_O p s m args meth c cc own nL ret G) (hd : decode cc pc = .ok (.dup, 1)) (hv : v.category = 1) (k : tw_X p l e R s m args below meth c nL G σ cells slots Q (pc + 1) lv (v :: v :: st)) : tw_X p l e R s m args below meth c nL G σ cells slots Q pc lv (v :: st) :=
  fun H locs ls hR hS hl => lv_dup h.1 h.2.1 hd hv (k H locs ls hR hS hl)
theorem tw_dup2 {v w : Value} (h : tw_O p s m args meth c cc own nL ret G) (hd : decode cc pc = .ok (.dup2, 1)) (hv : v.category = 1) (hw : w.category = 1) (k : tw_X p l e R s m args below meth c nL G σ cells slots Q (pc + 1) lv (v :: w :: v :: w :: st)) : tw_X p l e R s m args below meth c nL G σ cells slots Q pc lv (v :: w :: st) :=
  fun H locs ls hR hS hl => lv_dup2_11 h.1 h.2.1 hd hv hw (k H locs ls hR hS hl)
theorem tw_pop {v : Value} (h : tw_O p s m args meth c cc own nL ret G) (hd : decode cc pc = .ok (.pop, 1)) (hv : v.category = 1) (k : tw_X p l e R s m args below meth c nL G σ cells slots Q (pc + 1) lv st) : tw_X p l e R s m args below meth c nL G σ cells slots Q pc lv (v :: st) :=
  fun H locs ls hR hS hl => lv_pop h.1 h.2.1 hd hv (k H locs ls hR hS hl)
theorem tw_goto {off : Int} {tgt : Nat} (h : tw_O p s m args meth c cc own nL ret G) (hd : decode cc pc = .ok (.goto off, 3)) (ht : (pc : Int) + off = (tgt : Int)) (k : tw_X p l e R s m args below meth c nL G σ cells slots Q tgt lv st) : tw_X p l e R s m args below meth c nL G σ cells slots Q pc lv st :=
  fun H locs ls hR hS hl => lv_goto h.1 h.2.1 hd ht (k H locs ls hR hS hl)
theorem tw_if_eq {x : Int32} {off : Int} {tgt : Nat} (h : tw_O p s m args meth c cc own nL ret G) (hd : decode cc pc = .ok (.ifCond .eq off, 3)) (ht : (pc : Int) + off = (tgt : Int)) (kt : x = 0 → tw_X p l e R s m args below meth c nL G σ cells slots Q tgt lv st) (kf : ¬ x = 0 → tw_X p l e R s m args below meth c nL G σ cells slots Q (pc + 3) lv st) : tw_X p l e R s m args below meth c nL G σ cells slots Q pc lv (.int x :: st) :=
  fun H locs ls hR hS hl => lv_if_eq h.1 h.2.1 hd ht (fun z => kt z H locs ls hR hS hl) (fun z => kf z H locs ls hR hS hl)
theorem tw_if_ne {x : Int32} {off : Int} {tgt : Nat} (h : tw_O p s m args meth c cc own nL ret G) (hd : decode cc pc = .ok (.ifCond .ne off, 3)) (ht : (pc : Int) + off = (tgt : Int)) (kt : ¬ x = 0 → tw_X p l e R s m args below meth c nL G σ cells slots Q tgt lv st) (kf : x = 0 → tw_X p l e R s m args below meth c nL G σ cells slots Q (pc + 3) lv st) : tw_X p l e R s m args below meth c nL G σ cells slots Q pc lv (.int x :: st) :=
  fun H locs ls hR hS hl => lv_if_ne h.1 h.2.1 hd ht (fun z => kt z H locs ls hR hS hl) (fun z => kf z H locs ls hR hS hl)
theorem tw_if_lt {x : Int32} {off : Int} {tgt : Nat} (h : tw_O p s m args meth c cc own nL ret G) (hd : decode cc pc = .ok (.ifCond .lt off, 3)) (ht : (pc : Int) + off = (tgt : Int)) (kt : x < 0 → tw_X p l e R s m args below meth c nL G σ cells slots Q tgt lv st) (kf : ¬ x < 0 → tw_X p l e R s m args below meth c nL G σ cells slots Q (pc + 3) lv st) : tw_X p l e R s m args below meth c nL G σ cells slots Q pc lv (.int x :: st) :=
  fun H locs ls hR hS hl => lv_if_lt h.1 h.2.1 hd ht (fun z => kt z H locs ls hR hS hl) (fun z => kf z H locs ls hR hS hl)
theorem tw_if_ge {x : Int32} {off : Int} {tgt : Nat} (h : tw_O p s m args meth c cc own nL ret G) (hd : decode cc pc = .ok (.ifCond .ge off, 3)) (ht : (pc : Int) + off = (tgt : Int)) (kt : 0 ≤ x → tw_X p l e R s m args below meth c nL G σ cells slots Q tgt lv st) (kf : ¬ 0 ≤ x → tw_X p l e R s m args below meth c nL G σ cells slots Q (pc + 3) lv st) : tw_X p l e R s m args below meth c nL G σ cells slots Q pc lv (.int x :: st) :=
  fun H locs ls hR hS hl => lv_if_ge h.1 h.2.1 hd ht (fun z => kt z H locs ls hR hS hl) (fun z => kf z H locs ls hR hS hl)
theorem tw_if_gt {x : Int32} {off : Int} {tgt : Nat} (h : tw_O p s m args meth c cc own nL ret G) (hd : decode cc pc = .ok (.ifCond .gt off, 3)) (ht : (pc : Int) + off = (tgt : Int)) (kt : 0 < x → tw_X p l e R s m args below meth c nL G σ cells slots Q tgt lv st) (kf : ¬ 0 < x → tw_X p l e R s m args below meth c nL G σ cells slots Q (pc + 3) lv st) : tw_X p l e R s m args below meth c nL G σ cells slots Q pc lv (.int x :: st) :=
  fun H locs ls hR hS hl => lv_if_gt h.1 h.2.1 hd ht (fun z => kt z H locs ls hR hS hl) (fun z => kf z H locs ls hR hS hl)
theorem tw_if_le {x : Int32} {off : Int} {tgt : Nat} (h : tw_O p s m args meth c cc own nL ret G) (hd : decode cc pc = .ok (.ifCond .le off, 3)) (ht : (pc : Int) + off = (tgt : Int)) (kt : x ≤ 0 → tw_X p l e R s m args below meth c nL G σ cells slots Q tgt lv st) (kf : ¬ x ≤ 0 → tw_X p l e R s m args below meth c nL G σ cells slots Q (pc + 3) lv st) : tw_X p l e R s m args below meth c nL G σ cells slots Q pc lv (.int x :: st) :=
  fun H locs ls hR hS hl => lv_if_le h.1 h.2.1 hd ht (fun z => kt z H locs ls hR hS hl) (fun z => kf z H locs ls hR hS hl)
theorem tw_icmp_eq {x y : Int32} {off : Int} {tgt : Nat} (h : tw_O p s m args meth c cc own nL ret G) (hd : decode cc pc = .ok (.if_icmp .eq off, 3)) (ht : (pc : Int) + off = (tgt : Int)) (kt : x = y → tw_X p l e R s m args below meth c nL G σ cells slots Q tgt lv st) (kf : ¬ x = y → tw_X p l e R s m args below meth c nL G σ cells slots Q (pc + 3) lv st) : tw_X p l e R s m args below meth c nL G σ cells slots Q pc lv (.int y :: .int x :: st) :=
  fun H locs ls hR hS hl => lv_icmp_eq h.1 h.2.1 hd ht (fun z => kt z H locs ls hR hS hl) (fun z => kf z H locs ls hR hS hl)
theorem tw_icmp_ne {x y : Int32} {off : Int} {tgt : Nat} (h : tw_O p s m args meth c cc own nL ret G) (hd : decode cc pc = .ok (.if_icmp .ne off, 3)) (ht : (pc : Int) + off = (tgt : Int)) (kt : ¬ x = y → tw_X p l e R s m args below meth c nL G σ cells slots Q tgt lv st) (kf : x = y → tw_X p l e R s m args below meth c nL G σ cells slots Q (pc + 3) lv st) : tw_X p l e R s m args below meth c nL G σ cells slots Q pc lv (.int y :: .int x :: st) :=
  fun H locs ls hR hS hl => lv_icmp_ne h.1 h.2.1 hd ht (fun z => kt z H locs ls hR hS hl) (fun z => kf z H locs ls hR hS hl)
theorem tw_icmp_lt {x y : Int32} {off : Int} {tgt : Nat} (h : tw_O p s m args meth c cc own nL ret G) (hd : decode cc pc = .ok (.if_icmp .lt off, 3)) (ht : (pc : Int) + off = (tgt : Int)) (kt : x < y → tw_X p l e R s m args below meth c nL G σ cells slots Q tgt lv st) (kf : ¬ x < y → tw_X p l e R s m args below meth c nL G σ cells slots Q (pc + 3) lv st) : tw_X p l e R s m args below meth c nL G σ cells slots Q pc lv (.int y :: .int x :: st) :=
  fun H locs ls hR hS hl => lv_icmp_lt h.1 h.2.1 hd ht (fun z => kt z H locs ls hR hS hl) (fun z => kf z H locs ls hR hS hl)
theorem tw_icmp_ge {x y : Int32} {off : Int} {tgt : Nat} (h : tw_O p s m args meth c cc own nL ret G) (hd : decode cc pc = .ok (.if_icmp .ge off, 3)) (ht : (pc : Int) + off = (tgt : Int)) (kt : y ≤ x → tw_X p l e R s m args below meth c nL G σ cells slots Q tgt lv st) (kf : ¬ y ≤ x → tw_X p l e R s m args below meth c nL G σ cells slots Q (pc + 3) lv st) : tw_X p l e R s m args below meth c nL G σ cells slots Q pc lv (.int y :: .int x :: st) :=
  fun H locs ls hR hS hl => lv_icmp_ge h.1 h.2.1 hd ht (fun z => kt z H locs ls hR hS hl) (fun z => kf z H locs ls hR hS hl)
theorem tw_icmp_gt {x y : Int32} {off : Int} {tgt : Nat} (h : tw_O p s m args meth c cc own nL ret G) (hd : decode cc pc = .ok (.if_icmp .gt off, 3)) (ht : (pc : Int) + off = (tgt : Int)) (kt : y < x → tw_X p l e R s m args below meth c nL G σ cells slots Q tgt lv st) (kf : ¬ y < x → tw_X p l e R s m args below meth c nL G σ cells slots Q (pc + 3) lv st) : tw_X p l e R s m args below meth c nL G σ cells slots Q pc lv (.int y :: .int x :: st) :=
  fun H locs ls hR hS hl => lv_icmp_gt h.1 h.2.1 hd ht (fun z => kt z H locs ls hR hS hl) (fun z => kf z H locs ls hR hS hl)
theorem tw_icmp_le {x y : Int32} {off : Int} {tgt : Nat} (h : tw_O p s m args meth c cc own nL ret G) (hd : decode cc pc = .ok (.if_icmp .le off, 3)) (ht : (pc : Int) + off = (tgt : Int)) (kt : x ≤ y → tw_X p l e R s m args below meth c nL G σ cells slots Q tgt lv st) (kf : ¬ x ≤ y → tw_X p l e R s m args below meth c nL G σ cells slots Q (pc + 3) lv st) : tw_X p l e R s m args below meth c nL G σ cells slots Q pc lv (.int y :: .int x :: st) :=
  fun H locs ls hR hS hl => lv_icmp_le h.1 h.2.1 hd ht (fun z => kt z H locs ls hR hS hl) (fun z => kf z H locs ls hR hS hl)
theorem tw_tableOut {dflt lo hi : Int} {offs : Array Int} {len : Nat} {x : Int32} {tgt : Nat} (h : tw_O p s m args meth c cc own nL ret G) (hd : decode cc pc = .ok (.tableswitch dflt lo hi offs, len)) (hx : x.toInt < lo ∨ hi < x.toInt) (ht : (pc : Int) + dflt = (tgt : Int)) (k : tw_X p l e R s m args below meth c nL G σ cells slots Q tgt lv st) : tw_X p l e R s m args below meth c nL G σ cells slots Q pc lv (.int x :: st) :=
  fun H locs ls hR hS hl => lv_tableOut h.1 h.2.1 hd hx ht (k H locs ls hR hS hl)
theorem tw_tableIn {dflt lo hi : Int} {offs : Array Int} {len : Nat} {x : Int32} {off : Int} {tgt : Nat} (h : tw_O p s m args meth c cc own nL ret G) (hd : decode cc pc = .ok (.tableswitch dflt lo hi offs, len)) (h1 : ¬ x.toInt < lo) (h2 : ¬ hi < x.toInt) (ho : offs[(x.toInt - lo).toNat]? = some off) (ht : (pc : Int) + off = (tgt : Int)) (k : tw_X p l e R s m args below meth c nL G σ cells slots Q tgt lv st) : tw_X p l e R s m args below meth c nL G σ cells slots Q pc lv (.int x :: st) :=
  fun H locs ls hR hS hl => lv_tableIn h.1 h.2.1 hd h1 h2 ho ht (k H locs ls hR hS hl)
end TWR
