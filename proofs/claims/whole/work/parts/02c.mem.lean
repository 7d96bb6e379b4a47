section TWM
variable {p : Program} {l : Launch} {e : Env} {R : Room} {s : State} {m : MethodId} {args : Array Value} {below : List Frame} {meth : Method} {c : Code} {cells slots : Nat} {Q : State → Prop}
variable {cc : ByteArray} {own : String} {nL : Nat} {ret : Option FieldType} {G : tw_G} {σ σ1 : tw_St} {pc : Nat} {lv lv' : List (Nat × Value)} {st : List Value}
theorem tw_getf {t a idx n : Nat} {r : vw_C} {v : Value} (h : tw_O p s m args meth c cc own nL ret G) (hd : decode cc pc = .ok (.getfield idx, 3)) (ht : vwCl[t]? = some r) (k : Nat) (hk : k < r.2.2) (ho : (r.2.1 k).1 = r.1) (hl : Cond.fieldLink own idx r.1 (r.2.1 k).2.1 (r.2.1 k).2.2.1 ∈ tw_W) (ha : σ.2.1 a = some (t, n)) (hv : tw_v t σ.2.2.1 σ.2.2.2 a k = v)
    (kk : tw_X p l e R s m args below meth c nL G σ cells slots Q (pc + 3) lv (v :: st)) : tw_X p l e R s m args below meth c nL G σ cells slots Q pc lv (.ref a :: st) := by
  intro H locs ls hR hS hl'
  obtain ⟨hx, hb, -, hown, hts, -, -, hK⟩ := h
  have hc := (hR.2.2 a t n ha).2
  rw [tw_cell_o ht] at hc
  obtain ⟨cell, q1, q2, q3, q4⟩ := hc
  obtain ⟨hSl, hfc, kC, hkC, hkind⟩ := hK.1 t r ht
  obtain ⟨cf, kf, fi, f, hi, hsl⟩ := hSl k hk
  rw [ho] at hi
  refine W.getf hx hb hown (hts _ hl) hi (u_facts hfc hkC (by have := u_lays hts (tw_lay ht) hk; rwa [ho] at this) hi).1 q1 (by rw [q3]; exact fun h => by cases h) (v := v) ?_ rfl rfl hd (kk H locs ls hR hS hl')
  rw [hsl, q4 k hk, hv]
theorem tw_getI {t a idx : Nat} {r : vw_C} {v : Int32} (h : tw_O p s m args meth c cc own nL ret G) (hd : decode cc pc = .ok (.getfield idx, 3)) (ht : vwCl[t]? = some r) (k : Nat) (hk : k < r.2.2) (ho : (r.2.1 k).1 = r.1) (hl : Cond.fieldLink own idx r.1 (r.2.1 k).2.1 (r.2.1 k).2.2.1 ∈ tw_W) (hi : tw_isR t k = false) (ea : tw_gI σ t a k = some v)
    (kk : tw_X p l e R s m args below meth c nL G σ cells slots Q (pc + 3) lv (.int v :: st)) : tw_X p l e R s m args below meth c nL G σ cells slots Q pc lv (.ref a :: st) := by
  obtain ⟨n, h1, h2⟩ := tw_gI_sp ea
  exact tw_getf h hd ht k hk ho hl h1 (by simp [tw_v, hi, h2]) kk
theorem tw_getP {t a idx v : Nat} {r : vw_C} (h : tw_O p s m args meth c cc own nL ret G) (hd : decode cc pc = .ok (.getfield idx, 3)) (ht : vwCl[t]? = some r) (k : Nat) (hk : k < r.2.2) (ho : (r.2.1 k).1 = r.1) (hl : Cond.fieldLink own idx r.1 (r.2.1 k).2.1 (r.2.1 k).2.2.1 ∈ tw_W) (hi : tw_isR t k = true) (ea : tw_gP σ t a k = some v)
    (kk : tw_X p l e R s m args below meth c nL G σ cells slots Q (pc + 3) lv (.ref v :: st)) : tw_X p l e R s m args below meth c nL G σ cells slots Q pc lv (.ref a :: st) := by
  obtain ⟨n, h1, h2⟩ := tw_gP_sp ea
  exact tw_getf h hd ht k hk ho hl h1 (by simp [tw_v, hi, h2, va_rf]) kk
theorem tw_S.put {H0 H H1 : Heap} {locs : List Loc} {a k : Nat} (h : va_S (tw_A G) H0 H locs) (z : H1.size = H.size) (oq : ∀ q : Nat, q ≠ a → H1[q]? = H[q]?) (ha : G.2.2.2.2 ≤ a) : va_S (tw_A G) H0 H1 (locs ++ [⟨a, k⟩]) := h.put z oq ha
theorem tw_apart {t : Nat} {r : vw_C} (h : tw_O p s m args meth c cc own nL ret G) (ht : vwCl[t]? = some r) : ∀ x y, x < r.2.2 → y < r.2.2 → x ≠ y → (G.1.2 t) x ≠ (G.1.2 t) y := by
  obtain ⟨hx, hb, -, hown, hts, -, -, hK⟩ := h
  intro x y hx hy hne
  obtain ⟨hS, -⟩ := hK.1 t r ht
  obtain ⟨_, _, _, fa, hia, ea⟩ := hS x hx
  obtain ⟨_, _, _, fb, hib, eb⟩ := hS y hy
  rw [← ea, ← eb]
  refine u_apart (u_lays hts (tw_lay ht) hx) (u_lays hts (tw_lay ht) hy) hia hib ?_
  rw [(State.fieldFound?_type hia (tw_fty_ok ht x hx)).1, (State.fieldFound?_type hib (tw_fty_ok ht y hy)).1]
  exact tw_nm0 r (List.mem_of_getElem? ht) x hx y hy hne
theorem tw_putI {t a idx : Nat} {r : vw_C} {x : Int32} (h : tw_O p s m args meth c cc own nL ret G) (hd : decode cc pc = .ok (.putfield idx, 3)) (ht : vwCl[t]? = some r) (k : Nat) (hk : k < r.2.2) (ho : (r.2.1 k).1 = r.1) (hl : Cond.fieldLink own idx r.1 (r.2.1 k).2.1 (r.2.1 k).2.2.1 ∈ tw_W) (hf : (r.2.1 k).2.2.2 = false) (hi : tw_isR t k = false) (hn : narrow (tw_fty t k) (.int x) = .int x ∧ fits (tw_fty t k) (.int x) = true) (ea : tw_pI σ t a k x = some σ1)
    (kk : tw_X p l e R s m args below meth c nL G σ1 cells slots Q (pc + 3) lv st) : tw_X p l e R s m args below meth c nL G σ cells slots Q pc lv (.int x :: .ref a :: st) := by
  obtain ⟨⟨n, ha⟩, rfl⟩ := tw_pI_sp ea
  intro H locs ls hR hS hl'
  have hap := tw_apart h ht
  obtain ⟨hx, hb, -, hown, hts, -, -, hK⟩ := h
  have hc := (hR.2.2 a t n ha).2
  rw [tw_cell_o ht] at hc
  obtain ⟨cell, q1, q2, q3, q4⟩ := hc
  obtain ⟨hSl, hfc, kC, hkC, hkind⟩ := hK.1 t r ht
  obtain ⟨cf, kf, fi, f, hi', hsl⟩ := hSl k hk
  rw [ho] at hi'
  have hlay := hts _ (tw_lay ht _ (u_in_lay hk))
  unfold u_lay at hlay
  rw [if_neg (by rw [hf]; decide), ho] at hlay
  have hst := (u_facts hfc hkC (Or.inl hlay) hi').1
  have h6 := u_store hfc hkC hkind hlay hi' (tw_fty_ok ht k hk) hn.1 hn.2
  refine W.putK hx hb (f := f) ⟨hown, hts _ hl, ⟨_, _, _, hi'⟩, hst⟩ (by rw [q2]; exact h6) q1 q3 (by rw [hsl]; exact k2_hasslot (q4 k hk)) rfl rfl hd fun H' e1 e2 e3 => ?_
  rw [hsl] at e1 ⊢
  refine kk H' _ ls (hR.put ha rfl rfl e2 e3 (fun b hb t => tw_vI_ne b hb t) ?_) (tw_S.put hS e2 e3 (hR.2.2 a t n ha).1) hl'
  rw [tw_cell_o ht]
  exact ⟨_, e1, q2, q3, fun j hj => by rw [show tw_v t (tw_sI σ a k x).2.2.1 (tw_sI σ a k x).2.2.2 a = updV (tw_v t σ.2.2.1 σ.2.2.2 a) k (.int x) from tw_vI_eq hi]; exact t_set q4 hap hk _ j hj⟩
theorem tw_putP {t a idx x : Nat} {r : vw_C} (h : tw_O p s m args meth c cc own nL ret G) (hnm : meth.name = "<init>") (hd : decode cc pc = .ok (.putfield idx, 3)) (ht : vwCl[t]? = some r) (k : Nat) (hk : k < r.2.2) (ho : (r.2.1 k).1 = r.1) (hw : r.1 = own) (hl : Cond.fieldLink own idx r.1 (r.2.1 k).2.1 (r.2.1 k).2.2.1 ∈ tw_W) (hf : (r.2.1 k).2.2.2 = true) (hi : tw_isR t k = true) (hn : narrow (tw_fty t k) (.ref x) = .ref x ∧ fits (tw_fty t k) (.ref x) = true) (ea : tw_pP σ t a k x = some σ1)
    (kk : tw_X p l e R s m args below meth c nL G σ1 cells slots Q (pc + 3) lv st) : tw_X p l e R s m args below meth c nL G σ cells slots Q pc lv (.ref x :: .ref a :: st) := by
  obtain ⟨⟨n, ha⟩, rfl⟩ := tw_pP_sp ea
  intro H locs ls hR hS hl'
  have hap := tw_apart h ht
  obtain ⟨hx, hb, -, hown, hts, -, -, hK⟩ := h
  have hc := (hR.2.2 a t n ha).2
  rw [tw_cell_o ht] at hc
  obtain ⟨cell, q1, q2, q3, q4⟩ := hc
  obtain ⟨hSl, hfc, kC, hkC, hkind⟩ := hK.1 t r ht
  obtain ⟨cf, kf, fi, f, hi', hsl⟩ := hSl k hk
  rw [ho] at hi'
  have hlay := hts _ (tw_lay ht _ (u_in_lay hk))
  unfold u_lay at hlay
  rw [if_pos hf, ho] at hlay
  have hst := (u_facts hfc hkC (Or.inr hlay) hi').1
  have hcf : m.cls = cf := by
    obtain ⟨_, _, c', _, _, _, -, -, hf', -, -, -, hown2, -⟩ := Cond.laysFinal_spec hlay
    have e1 : c' = cf := by have := hi'.symm.trans hf'; simp at this; exact this.1.symm
    rw [hw] at hown2
    rw [← e1]; exact Option.some.inj (hown.symm.trans hown2)
  have h6 := u_fits hfc hkC hkind (Or.inr hlay) hi' (tw_fty_ok ht k hk) hn.1 hn.2
  refine W.putFinK hx hb hown (hts _ hl) hi' hst hcf hnm (by rw [q2]; exact h6) q1 q3 (by rw [hsl]; exact k2_hasslot (q4 k hk)) rfl rfl hd fun H' e1 e2 e3 => ?_
  rw [hsl] at e1 ⊢
  refine kk H' _ ls (hR.put ha rfl rfl e2 e3 (fun b hb t => tw_vP_ne b hb t) ?_) (tw_S.put hS e2 e3 (hR.2.2 a t n ha).1) hl'
  rw [tw_cell_o ht]
  exact ⟨_, e1, q2, q3, fun j hj => by rw [show tw_v t (tw_sP σ a k (some x)).2.2.1 (tw_sP σ a k (some x)).2.2.2 a = updV (tw_v t σ.2.2.1 σ.2.2.2 a) k (.ref x) from tw_vP_eq hi]; exact t_set q4 hap hk _ j hj⟩
/-- arrays -/
theorem tw_arr {H : Heap} {t n a : Nat} (h : tw_O p s m args meth c cc own nL ret G) (hR : tw_R G σ H) (ht : 20 ≤ t) (ht2 : t < 27) (ha : σ.2.1 a = some (t, n)) : H[a]? = some (arrV (G.2.1 t) n (tw_v t σ.2.2.1 σ.2.2.2 a)) ∧ s.isArrayOf (arrV (G.2.1 t) n (tw_v t σ.2.2.1 σ.2.2.2 a)) (tw_ty t) := by
  have hc := (hR.2.2 a t n ha).2
  rw [tw_cell_a ht] at hc
  exact ⟨hc, (h.2.2.2.2.2.2.2.2.1 t ht ht2).1 n _⟩
theorem tw_arr_in {t n a : Nat} {i : Int32} (hin : vp_in i n) : ¬ (i < 0 ∨ (arrV (G.2.1 t) n (tw_v t σ.2.2.1 σ.2.2.2 a)).slots.size ≤ i.toNatClampNeg) := by rw [arrV_size]; exact hin
theorem tw_arr_at {t n a : Nat} {i : Int32} (hin : vp_in i n) : (arrV (G.2.1 t) n (tw_v t σ.2.2.1 σ.2.2.2 a)).slots[i.toNatClampNeg]? = some (tw_v t σ.2.2.1 σ.2.2.2 a i.toNatClampNeg) := arrV_read _ _ (Nat.not_le.mp fun q => hin (Or.inr q))
theorem tw_iald {a : Nat} {i v : Int32} (h : tw_O p s m args meth c cc own nL ret G) (hd : decode cc pc = .ok (.iaload, 1)) (ea : tw_aI σ 20 a i = some v) (kk : tw_X p l e R s m args below meth c nL G σ cells slots Q (pc + 1) lv (.int v :: st)) : tw_X p l e R s m args below meth c nL G σ cells slots Q pc lv (.int i :: .ref a :: st) := by
  obtain ⟨n, h1, h2, h3⟩ := tw_aI_sp ea
  intro H locs ls hR hS hl
  obtain ⟨g1, g2⟩ := tw_arr h hR (by decide) (by decide) h1
  exact W.iald (v := .int v) h.1 h.2.1 g1 g2 (fun q => by cases q) (tw_arr_in h2) (by rw [tw_arr_at h2]; simp [tw_v, tw_isR, h3]) rfl rfl hd (kk H locs ls hR hS hl)
theorem tw_cald {a : Nat} {i v : Int32} (h : tw_O p s m args meth c cc own nL ret G) (hd : decode cc pc = .ok (.caload, 1)) (ea : tw_aI σ 21 a i = some v) (kk : tw_X p l e R s m args below meth c nL G σ cells slots Q (pc + 1) lv (.int v :: st)) : tw_X p l e R s m args below meth c nL G σ cells slots Q pc lv (.int i :: .ref a :: st) := by
  obtain ⟨n, h1, h2, h3⟩ := tw_aI_sp ea
  intro H locs ls hR hS hl
  obtain ⟨g1, g2⟩ := tw_arr h hR (by decide) (by decide) h1
  exact W.cald (v := .int v) h.1 h.2.1 g1 g2 (fun q => by cases q) (tw_arr_in h2) (by rw [tw_arr_at h2]; simp [tw_v, tw_isR, h3]) rfl rfl hd (kk H locs ls hR hS hl)
theorem tw_zald {a : Nat} {i v : Int32} (h : tw_O p s m args meth c cc own nL ret G) (hd : decode cc pc = .ok (.baload, 1)) (ea : tw_aI σ 22 a i = some v) (kk : tw_X p l e R s m args below meth c nL G σ cells slots Q (pc + 1) lv (.int v :: st)) : tw_X p l e R s m args below meth c nL G σ cells slots Q pc lv (.int i :: .ref a :: st) := by
  obtain ⟨n, h1, h2, h3⟩ := tw_aI_sp ea
  intro H locs ls hR hS hl
  obtain ⟨g1, g2⟩ := tw_arr h hR (by decide) (by decide) h1
  exact W.zald (v := .int v) h.1 h.2.1 g1 g2 (fun q => by cases q) (tw_arr_in h2) (by rw [tw_arr_at h2]; simp [tw_v, tw_isR, h3]) rfl rfl hd (kk H locs ls hR hS hl)
theorem tw_aald {t a v : Nat} {i : Int32} (h : tw_O p s m args meth c cc own nL ret G) (hd : decode cc pc = .ok (.aaload, 1)) (ht : 23 ≤ t) (ht2 : t < 27) (ea : tw_aP σ t a i = some v) (kk : tw_X p l e R s m args below meth c nL G σ cells slots Q (pc + 1) lv (.ref v :: st)) : tw_X p l e R s m args below meth c nL G σ cells slots Q pc lv (.int i :: .ref a :: st) := by
  obtain ⟨n, h1, h2, h3⟩ := tw_aP_sp ea
  intro H locs ls hR hS hl
  obtain ⟨g1, g2⟩ := tw_arr h hR (by omega) ht2 h1
  have hr : (tw_ty t).isReference = true ∧ ∀ j, tw_isR t j = true := by
    rcases (show t = 23 ∨ t = 24 ∨ t = 25 ∨ t = 26 by omega) with rfl | rfl | rfl | rfl <;> exact ⟨rfl, fun _ => rfl⟩
  exact W.aald (v := .ref v) h.1 h.2.1 g1 g2 hr.1 (fun q => by cases q) (tw_arr_in h2) (by rw [tw_arr_at h2]; simp [tw_v, hr.2, h3, va_rf]) rfl rfl hd (kk H locs ls hR hS hl)
theorem tw_alen {t a : Nat} {v : Int32} (h : tw_O p s m args meth c cc own nL ret G) (hd : decode cc pc = .ok (.arraylength, 1)) (ht : 20 ≤ t) (ht2 : t < 27) (ea : tw_len σ t a = some v) (kk : tw_X p l e R s m args below meth c nL G σ cells slots Q (pc + 1) lv (.int v :: st)) : tw_X p l e R s m args below meth c nL G σ cells slots Q pc lv (.ref a :: st) := by
  obtain ⟨n, h1, h2⟩ := tw_len_sp ea
  intro H locs ls hR hS hl
  obtain ⟨g1, g2⟩ := tw_arr h hR ht ht2 h1
  exact W.alen (n := v) h.1 h.2.1 g1 g2 (by rw [arrV_size, ← h2] <;> rfl) rfl rfl hd (kk H locs ls hR hS hl)
theorem tw_stored {H H1 : Heap} {t n a k : Nat} {x : Int32} (hR : tw_R G σ H) (ht : 20 ≤ t) (hi : tw_isR t k = false) (ha : σ.2.1 a = some (t, n)) (e1 : H1[a]? = some ((arrV (G.2.1 t) n (tw_v t σ.2.2.1 σ.2.2.2 a)).setSlot k (.int x))) (e2 : H1.size = H.size) (e3 : ∀ q, q ≠ a → H1[q]? = H[q]?) : tw_R G (tw_sI σ a k x) H1 := by
  refine hR.put ha rfl rfl e2 e3 (fun b hb t => tw_vI_ne b hb t) ?_
  rw [tw_cell_a ht, e1, arrV_store]
  rw [show tw_v t (tw_sI σ a k x).2.2.1 (tw_sI σ a k x).2.2.2 a = updV (tw_v t σ.2.2.1 σ.2.2.2 a) k (.int x) from tw_vI_eq hi]
theorem tw_iast {a : Nat} {i x : Int32} (h : tw_O p s m args meth c cc own nL ret G) (hd : decode cc pc = .ok (.iastore, 1)) (ea : tw_wI σ 20 a i x = some σ1) (kk : tw_X p l e R s m args below meth c nL G σ1 cells slots Q (pc + 1) lv st) : tw_X p l e R s m args below meth c nL G σ cells slots Q pc lv (.int x :: .int i :: .ref a :: st) := by
  obtain ⟨n, h1, h2, rfl⟩ := tw_wI_sp ea
  intro H locs ls hR hS hl
  obtain ⟨g1, g2⟩ := tw_arr h hR (by decide) (by decide) h1
  exact W.iast h.1 h.2.1 g1 g2 (fun q => by cases q) (tw_arr_in h2) rfl rfl hd fun H' e1 e2 e3 => kk H' _ ls (tw_stored hR (by decide) rfl h1 e1 e2 e3) (tw_S.put hS e2 e3 (hR.2.2 a _ n h1).1) hl
theorem tw_zast {a : Nat} {i x : Int32} (h : tw_O p s m args meth c cc own nL ret G) (hd : decode cc pc = .ok (.bastore, 1)) {y : Int32} (hn : tw_bz x = some y) (ea : tw_wI σ 22 a i x = some σ1) (kk : tw_X p l e R s m args below meth c nL G σ1 cells slots Q (pc + 1) lv st) : tw_X p l e R s m args below meth c nL G σ cells slots Q pc lv (.int x :: .int i :: .ref a :: st) := by
  obtain ⟨n, h1, h2, rfl⟩ := tw_wI_sp ea
  have hn2 := (tw_bz_sp hn).2.1
  intro H locs ls hR hS hl
  obtain ⟨g1, g2⟩ := tw_arr h hR (by decide) (by decide) h1
  exact W.zast h.1 h.2.1 g1 g2 (fun q => by cases q) (tw_arr_in h2) rfl rfl hd fun H' e1 e2 e3 => kk H' _ ls (tw_stored hR (by decide) rfl h1 (by rw [hn2] at e1; exact e1) e2 e3) (tw_S.put hS e2 e3 (hR.2.2 a _ n h1).1) hl
theorem tw_cast {a : Nat} {i x : Int32} (h : tw_O p s m args meth c cc own nL ret G) (hd : decode cc pc = .ok (.castore, 1)) {y : Int32} (hn : tw_bc x = some y) (ea : tw_wI σ 21 a i x = some σ1) (kk : tw_X p l e R s m args below meth c nL G σ1 cells slots Q (pc + 1) lv st) : tw_X p l e R s m args below meth c nL G σ cells slots Q pc lv (.int x :: .int i :: .ref a :: st) := by
  obtain ⟨n, h1, h2, rfl⟩ := tw_wI_sp ea
  have hn2 := (tw_bc_sp hn).2.1
  intro H locs ls hR hS hl
  obtain ⟨g1, g2⟩ := tw_arr h hR (by decide) (by decide) h1
  exact W.cast h.1 h.2.1 g1 g2 (fun q => by cases q) (tw_arr_in h2) rfl rfl hd fun H' e1 e2 e3 => kk H' _ ls (tw_stored hR (by decide) rfl h1 (by rw [hn2] at e1; exact e1) e2 e3) (tw_S.put hS e2 e3 (hR.2.2 a _ n h1).1) hl
theorem tw_storedP {H H1 : Heap} {t n a k x : Nat} (hR : tw_R G σ H) (ht : 20 ≤ t) (hi : tw_isR t k = true) (ha : σ.2.1 a = some (t, n)) (e1 : H1[a]? = some ((arrV (G.2.1 t) n (tw_v t σ.2.2.1 σ.2.2.2 a)).setSlot k (.ref x))) (e2 : H1.size = H.size) (e3 : ∀ q, q ≠ a → H1[q]? = H[q]?) : tw_R G (tw_sP σ a k (some x)) H1 := by
  refine hR.put ha rfl rfl e2 e3 (fun b hb t => tw_vP_ne b hb t) ?_
  rw [tw_cell_a ht, e1, arrV_store]
  rw [show tw_v t (tw_sP σ a k (some x)).2.2.1 (tw_sP σ a k (some x)).2.2.2 a = updV (tw_v t σ.2.2.1 σ.2.2.2 a) k (.ref x) from tw_vP_eq hi]
/-- aastore of an object of class tv into a row of that class (t: 24, 25, 26) -/
theorem tw_aast {t tv a x : Nat} {i : Int32} {r : vw_C} (h : tw_O p s m args meth c cc own nL ret G) (hd : decode cc pc = .ok (.aastore, 1)) (ht : 24 ≤ t) (ht2 : t < 27) (hr : vwCl[tv]? = some r) (hty : tw_ty t = .object r.1) (ea : tw_wP σ t tv a i x = some σ1) (kk : tw_X p l e R s m args below meth c nL G σ1 cells slots Q (pc + 1) lv st) : tw_X p l e R s m args below meth c nL G σ cells slots Q pc lv (.ref x :: .int i :: .ref a :: st) := by
  obtain ⟨n, m', h1, h1x, h2, rfl⟩ := tw_wP_sp ea
  intro H locs ls hR hS hl
  obtain ⟨g1, g2⟩ := tw_arr h hR (by omega) ht2 h1
  have hir : tw_isR t i.toNatClampNeg = true := by
    rcases (show t = 24 ∨ t = 25 ∨ t = 26 by omega) with rfl | rfl | rfl <;> rfl
  have hcx := (hR.2.2 x tv m' h1x).2
  rw [tw_cell_o hr] at hcx
  obtain ⟨cellV, v1, v2, v3, -⟩ := hcx
  have hK := h.2.2.2.2.2.2.2
  have hcls := (hK.1 tv r hr).2
  have hra := (hK.2.1 t (by omega) ht2).2
  rw [hty] at hra
  obtain ⟨kA, comp, k1, k2, k3, -⟩ := hra
  have hcomp : comp = G.1.1 tv := Option.some.inj (k3.symm.trans hcls.1)
  subst hcomp
  obtain ⟨kC, hkC, -⟩ := hcls.2
  exact W.aast h.1 h.2.1 g1 (fun q h => by cases h) (fun h => by cases h) k1 k2 rfl hkC ⟨fun q => h2 (Or.inl q), by rw [arrV_size]; exact Nat.not_le.mp fun q => h2 (Or.inr q)⟩ v1 (fun q h => by rw [v3] at h; cases h) (by rw [v2]; exact hkC) (by rw [v2]; exact va_assign hcls) rfl rfl hd fun H1 e1 e2 e3 =>
    kk H1 _ ls (tw_storedP hR (by omega) hir h1 e1 e2 e3) (tw_S.put hS e2 e3 (hR.2.2 a _ n h1).1) hl
/-- aastore of a row of numbers into a row of such rows -/
theorem tw_aastI {a x : Nat} {i : Int32} (h : tw_O p s m args meth c cc own nL ret G) (hd : decode cc pc = .ok (.aastore, 1)) (ea : tw_wP σ 23 20 a i x = some σ1) (kk : tw_X p l e R s m args below meth c nL G σ1 cells slots Q (pc + 1) lv st) : tw_X p l e R s m args below meth c nL G σ cells slots Q pc lv (.ref x :: .int i :: .ref a :: st) := by
  obtain ⟨n, m', h1, h1x, h2, rfl⟩ := tw_wP_sp ea
  intro H locs ls hR hS hl
  obtain ⟨g1, g2⟩ := tw_arr h hR (by omega) (by omega) h1
  obtain ⟨x1, x2⟩ := tw_arr h hR (by omega) (by omega) h1x
  obtain ⟨-, kI, hkI, -⟩ := x2
  have hK := h.2.2.2.2.2.2.2
  obtain ⟨kA, k1, k2⟩ := hK.2.2.2.2.2.2.2
  exact W.aast h.1 h.2.1 g1 (fun q h => by cases h) (fun h => by cases h) k1 k2 rfl hkI ⟨fun q => h2 (Or.inl q), by rw [arrV_size]; exact Nat.not_le.mp fun q => h2 (Or.inr q)⟩ x1 (fun q h => by cases h) hkI (va_asg _ _) rfl rfl hd fun H1 e1 e2 e3 =>
    kk H1 _ ls (tw_storedP hR (by omega) rfl h1 e1 e2 e3) (tw_S.put hS e2 e3 (hR.2.2 a _ n h1).1) hl
/-- statics -/
theorem tw_gsL {idx : Nat} (h : tw_O p s m args meth c cc own nL ret G) (hd : decode cc pc = .ok (.getstatic idx, 3)) (hl : Cond.fieldLink own idx RX7 "LOWEST" "[I" ∈ tw_W) (kk : tw_X p l e R s m args below meth c nL G σ cells slots Q (pc + 3) lv (.ref G.2.2.1 :: st)) : tw_X p l e R s m args below meth c nL G σ cells slots Q pc lv st :=
  fun H locs ls hR hS hl' => va_gets h.1 h.2.1 h.2.2.2.2.2.2.2.2.2.2.1 hS h.2.2.2.1 (h.2.2.2.2.1 _ hl) (fun _ q => q) hd (kk H locs ls hR hS hl')
theorem tw_gsH {idx : Nat} (h : tw_O p s m args meth c cc own nL ret G) (hd : decode cc pc = .ok (.getstatic idx, 3)) (hl : Cond.fieldLink own idx RX7 "HIGHEST" "[I" ∈ tw_W) (kk : tw_X p l e R s m args below meth c nL G σ cells slots Q (pc + 3) lv (.ref G.2.2.2.1 :: st)) : tw_X p l e R s m args below meth c nL G σ cells slots Q pc lv st :=
  fun H locs ls hR hS hl' => va_gets h.1 h.2.1 h.2.2.2.2.2.2.2.2.2.2.2.1 hS h.2.2.2.1 (h.2.2.2.2.1 _ hl) (fun _ q => q) hd (kk H locs ls hR hS hl')
theorem tw_ldL {i v : Int32} (h : tw_O p s m args meth c cc own nL ret G) (hd : decode cc pc = .ok (.iaload, 1)) (ea : tw_lo i = some v) (kk : tw_X p l e R s m args below meth c nL G σ cells slots Q (pc + 1) lv (.int v :: st)) : tw_X p l e R s m args below meth c nL G σ cells slots Q pc lv (.int i :: .ref G.2.2.1 :: st) := by
  unfold tw_lo at ea
  split at ea
  · rename_i q
    exact fun H locs ls hR hS hl' => va_ti h.1 h.2.1 h.2.2.2.2.2.2.2.2.2.2.2.2.1 hS (fun z => z.elim q.1 (Nat.not_le.mpr q.2)) (by rw [Option.some.inj ea]) hd (kk H locs ls hR hS hl')
  · cases ea
theorem tw_ldH {i v : Int32} (h : tw_O p s m args meth c cc own nL ret G) (hd : decode cc pc = .ok (.iaload, 1)) (ea : tw_hi i = some v) (kk : tw_X p l e R s m args below meth c nL G σ cells slots Q (pc + 1) lv (.int v :: st)) : tw_X p l e R s m args below meth c nL G σ cells slots Q pc lv (.int i :: .ref G.2.2.2.1 :: st) := by
  unfold tw_hi at ea
  split at ea
  · rename_i q
    exact fun H locs ls hR hS hl' => va_ti h.1 h.2.1 h.2.2.2.2.2.2.2.2.2.2.2.2.2.1 hS (fun z => z.elim q.1 (Nat.not_le.mpr q.2)) (by rw [Option.some.inj ea]) hd (kk H locs ls hR hS hl')
  · cases ea
/-- ends -/
theorem tw_iret {v : Int32} {q : Int32 × tw_St} (h : tw_O p s m args meth c cc own nL (some .int) G) (hd : decode cc pc = .ok (.ireturn, 1)) (ee : some (v, σ) = some q) : tw_X p l e R s m args below meth c nL G σ cells slots (tw_Q below args s G cells slots (some (.int q.1)) q.2) pc lv [.int v] := by
  obtain rfl := Option.some.inj ee
  exact fun H locs ls hR hS hl => W.iret h.1 h.2.1 h.2.2.2.2.2.2.1 (fun t ht hW => ⟨⟨rfl, by rw [ht]; exact hR⟩, hS.F ht⟩) hS.2.2 hd h.2.2.2.2.2.1
theorem tw_iretR {v q : Int32} (h : tw_O p s m args meth c cc own nL (some .int) G) (hd : decode cc pc = .ok (.ireturn, 1)) (ee : some v = some q) : tw_X p l e R s m args below meth c nL G σ cells slots (tw_Q below args s G cells slots (some (.int q)) σ) pc lv [.int v] := by
  obtain rfl := Option.some.inj ee
  exact fun H locs ls hR hS hl => W.iret h.1 h.2.1 h.2.2.2.2.2.2.1 (fun t ht hW => ⟨⟨rfl, by rw [ht]; exact hR⟩, hS.F ht⟩) hS.2.2 hd h.2.2.2.2.2.1
theorem tw_zret {v : Int32} {ty : FieldType} {q : Int32 × tw_St} (h : tw_O p s m args meth c cc own nL (some ty) G) (hn : narrow ty (.int v) = .int v) (hd : decode cc pc = .ok (.ireturn, 1)) (ee : some (v, σ) = some q) : tw_X p l e R s m args below meth c nL G σ cells slots (tw_Q below args s G cells slots (some (.int q.1)) q.2) pc lv [.int v] := by
  obtain rfl := Option.some.inj ee
  exact fun H locs ls hR hS hl => W.zret h.1 h.2.1 h.2.2.2.2.2.2.1 hn (fun t ht hW => ⟨⟨rfl, by rw [ht]; exact hR⟩, hS.F ht⟩) hS.2.2 hd h.2.2.2.2.2.1
theorem tw_zretR {v q : Int32} {ty : FieldType} (h : tw_O p s m args meth c cc own nL (some ty) G) (hn : narrow ty (.int v) = .int v) (hd : decode cc pc = .ok (.ireturn, 1)) (ee : some v = some q) : tw_X p l e R s m args below meth c nL G σ cells slots (tw_Q below args s G cells slots (some (.int q)) σ) pc lv [.int v] := by
  obtain rfl := Option.some.inj ee
  exact fun H locs ls hR hS hl => W.zret h.1 h.2.1 h.2.2.2.2.2.2.1 hn (fun t ht hW => ⟨⟨rfl, by rw [ht]; exact hR⟩, hS.F ht⟩) hS.2.2 hd h.2.2.2.2.2.1
theorem tw_vret {q : tw_St} (h : tw_O p s m args meth c cc own nL none G) (hd : decode cc pc = .ok (.return_, 1)) (ee : some σ = some q) : tw_X p l e R s m args below meth c nL G σ cells slots (tw_Q below args s G cells slots none q) pc lv [] := by
  obtain rfl := Option.some.inj ee
  exact fun H locs ls hR hS hl => W.vret h.1 h.2.1 h.2.2.2.2.2.2.1 (fun t ht hW => ⟨⟨rfl, by rw [ht]; exact hR⟩, hS.F ht⟩) hS.2.2 hd h.2.2.2.2.2.1
end TWM
