section TW_05c_X6_X0
variable {p : Program} {l : Launch} {e : Env} {s : State} {m : MethodId} {args : Array Value} {below : List Frame} {meth : Method} {c : Code} {G : tw_G}
theorem cfX6_init : tw_CF yX6_init cX6_init 1 none 0 := ⟨tw_w71, tw_w49, by decide +kernel, by decide +kernel, by decide +kernel⟩
theorem kX6_init {σ : tw_St} {a : Nat} {q : tw_St} (h : fX6_init σ a = some q) : tw_is σ 6 a = some () := by
  unfold fX6_init at h
  obtain ⟨_, e1, -⟩ := tw_bd h
  exact e1
set_option maxRecDepth 100000 in
set_option maxHeartbeats 4000000 in
theorem mX6_init (l : Launch) (G : tw_G) {σ : tw_St} {a : Nat} {q : tw_St} (h : fX6_init σ a = some q) : tw_M l G yX6_init cX6_init 1 none rmX6_init 9 155 σ [.ref a] none q := by
  unfold fX6_init at h
  obtain ⟨_, -, h⟩ := tw_bd h
  refine tw_M.of (by decide +kernel) (Nat.le_of_ble_eq_true rfl) (fun p e s m args below meth c hnm hO => ?_)
  have hO : tw_O p s m args meth c cX6_init RX6 1 none G := hO
  refine tw_aload_n 0 hO dX6_init_0 rfl rfl ?_
  refine tw_objI hO dX6_init_1 tw_w72 tw_w65 tw_w66 (Nat.le_of_ble_eq_true rfl) (Nat.le_of_ble_eq_true rfl) ?_
  refine tw_aload_n 0 hO dX6_init_4 rfl rfl ?_
  refine tw_iconst (v := 3) hO dX6_init_5 (by decide) ?_
  refine tw_newA (t := 20) (N := 3) hO dX6_init_6 ⟨by decide, by decide⟩ rfl tw_w90 (by decide) (by decide) (Nat.le_of_ble_eq_true rfl) (Nat.le_of_ble_eq_true rfl) (Nat.le_of_ble_eq_true rfl) ?_
  refine tw_dup hO dX6_init_8 rfl ?_
  refine tw_iconst (v := 0) hO dX6_init_9 (by decide) ?_
  refine tw_iconst (v := 0) hO dX6_init_10 (by decide) ?_
  obtain ⟨σ11, e11, h⟩ := tw_bd h
  refine tw_iast hO dX6_init_11 e11 ?_
  refine tw_dup hO dX6_init_12 rfl ?_
  refine tw_iconst (v := 1) hO dX6_init_13 (by decide) ?_
  refine tw_iconst (v := 3) hO dX6_init_14 (by decide) ?_
  obtain ⟨σ15, e15, h⟩ := tw_bd h
  refine tw_iast hO dX6_init_15 e15 ?_
  refine tw_dup hO dX6_init_16 rfl ?_
  refine tw_iconst (v := 2) hO dX6_init_17 (by decide) ?_
  refine tw_iconst (v := 4) hO dX6_init_18 (by decide) ?_
  obtain ⟨σ19, e19, h⟩ := tw_bd h
  refine tw_iast hO dX6_init_19 e19 ?_
  obtain ⟨σ20, e20, h⟩ := tw_bd h
  refine tw_putP hO hnm dX6_init_20 (t := 6) rfl 0 (by decide) rfl rfl tw_w93 rfl rfl ⟨rfl, rfl⟩ e20 ?_
  refine tw_aload_n 0 hO dX6_init_23 rfl rfl ?_
  refine tw_iconst (v := 2) hO dX6_init_24 (by decide) ?_
  refine tw_newR (t := 25) (C := RX3) (N := 2) hO dX6_init_25 ⟨by decide, by decide⟩ rfl tw_w73 (tw_knA25 hO) (by decide) (by decide) (Nat.le_of_ble_eq_true rfl) (Nat.le_of_ble_eq_true rfl) (Nat.le_of_ble_eq_true rfl) ?_
  refine tw_dup hO dX6_init_28 rfl ?_
  refine tw_iconst (v := 0) hO dX6_init_29 (by decide) ?_
  refine tw_newO hO dX6_init_30 (t := 3) rfl tw_w73 tw_w75 tw_w50 (Nat.le_of_ble_eq_true rfl) (Nat.le_of_ble_eq_true rfl) ?_
  refine tw_dup hO dX6_init_33 rfl ?_
  obtain ⟨σ34, e34, h⟩ := tw_bd h
  refine tw_callIN hO (mX3_init l G e34) cfX3_init rfl (tw_knN1 hO) tw_w77 rfl rfl rfl rfl ⟨(Nat.le_of_ble_eq_true rfl), (Nat.le_of_ble_eq_true rfl)⟩ (Nat.le_of_ble_eq_true rfl) ⟨(Nat.le_of_ble_eq_true rfl), (Nat.le_of_ble_eq_true rfl)⟩ dX6_init_34 ?_
  obtain ⟨σ37, e37, h⟩ := tw_bd h
  refine tw_aast (tv := 3) hO dX6_init_37 (by decide) (by decide) rfl rfl e37 ?_
  refine tw_dup hO dX6_init_38 rfl ?_
  refine tw_iconst (v := 1) hO dX6_init_39 (by decide) ?_
  refine tw_newO hO dX6_init_40 (t := 3) rfl tw_w73 tw_w75 tw_w50 (Nat.le_of_ble_eq_true rfl) (Nat.le_of_ble_eq_true rfl) ?_
  refine tw_dup hO dX6_init_43 rfl ?_
  obtain ⟨σ44, e44, h⟩ := tw_bd h
  refine tw_callIN hO (mX3_init l G e44) cfX3_init rfl (tw_knN1 hO) tw_w77 rfl rfl rfl rfl ⟨(Nat.le_of_ble_eq_true rfl), (Nat.le_of_ble_eq_true rfl)⟩ (Nat.le_of_ble_eq_true rfl) ⟨(Nat.le_of_ble_eq_true rfl), (Nat.le_of_ble_eq_true rfl)⟩ dX6_init_44 ?_
  obtain ⟨σ47, e47, h⟩ := tw_bd h
  refine tw_aast (tv := 3) hO dX6_init_47 (by decide) (by decide) rfl rfl e47 ?_
  obtain ⟨σ48, e48, h⟩ := tw_bd h
  refine tw_putP hO hnm dX6_init_48 (t := 6) rfl 1 (by decide) rfl rfl tw_w96 rfl rfl ⟨rfl, rfl⟩ e48 ?_
  refine tw_aload_n 0 hO dX6_init_51 rfl rfl ?_
  refine tw_iconst (v := 2) hO dX6_init_52 (by decide) ?_
  refine tw_bipush (v := 12) hO dX6_init_53 (by decide) ?_
  refine tw_mna (N := 2) (K := 12) hO dX6_init_55 tw_w91 tw_w90 (by decide) (by decide) (by decide) (by decide) (Nat.le_of_ble_eq_true rfl) (Nat.le_of_ble_eq_true rfl) (Nat.le_of_ble_eq_true rfl) (Nat.le_of_ble_eq_true rfl) (Nat.le_of_ble_eq_true rfl) ?_
  obtain ⟨σ59, e59, h⟩ := tw_bd h
  refine tw_putP hO hnm dX6_init_59 (t := 6) rfl 2 (by decide) rfl rfl tw_w99 rfl rfl ⟨rfl, rfl⟩ e59 ?_
  refine tw_wide (Nat.le_of_ble_eq_true rfl : _ ≤ 9) (Nat.le_of_ble_eq_true rfl : _ ≤ 155) ?_
  exact tw_vret hO dX6_init_62 h
theorem cfX0_init : tw_CF yX0_init cX0_init 2 none 0 := ⟨tw_w227, tw_w55, by decide +kernel, by decide +kernel, by decide +kernel⟩
theorem kX0_init {σ : tw_St} {a : Nat} {q : tw_St} (h : fX0_init σ a = some q) : tw_is σ 0 a = some () := by
  unfold fX0_init at h
  obtain ⟨_, e1, -⟩ := tw_bd h
  exact e1
set_option maxRecDepth 100000 in
set_option maxHeartbeats 4000000 in
theorem mX0_init (l : Launch) (G : tw_G) {σ : tw_St} {a : Nat} {q : tw_St} (h : fX0_init σ a = some q) : tw_M l G yX0_init cX0_init 2 none rmX0_init 61 954 σ [.ref a] none q := by
  unfold fX0_init at h
  obtain ⟨_, -, h⟩ := tw_bd h
  refine tw_M.of (by decide +kernel) (Nat.le_of_ble_eq_true rfl) (fun p e s m args below meth c hnm hO => ?_)
  have hO : tw_O p s m args meth c cX0_init RX0 2 none G := hO
  refine tw_aload_n 0 hO dX0_init_0 rfl rfl ?_
  refine tw_objI hO dX0_init_1 tw_w228 tw_w65 tw_w66 (Nat.le_of_ble_eq_true rfl) (Nat.le_of_ble_eq_true rfl) ?_
  refine tw_aload_n 0 hO dX0_init_4 rfl rfl ?_
  refine tw_bipush (v := 6) hO dX0_init_5 (by decide) ?_
  refine tw_newR (t := 24) (C := RX6) (N := 6) hO dX0_init_7 ⟨by decide, by decide⟩ rfl tw_w229 (tw_knA24 hO) (by decide) (by decide) (Nat.le_of_ble_eq_true rfl) (Nat.le_of_ble_eq_true rfl) (Nat.le_of_ble_eq_true rfl) ?_
  obtain ⟨σ10, e10, h⟩ := tw_bd h
  refine tw_putP hO hnm dX0_init_10 (t := 0) rfl 2 (by decide) rfl rfl tw_w235 rfl rfl ⟨rfl, rfl⟩ e10 ?_
  refine tw_iconst (v := 0) hO dX0_init_13 (by decide) ?_
  refine tw_istore_n (lv' := [(1, .int 0), (0, .ref a)]) hO dX0_init_14 rfl (by decide) rfl ?_
  refine tw_iload_n 0 hO dX0_init_15 rfl rfl ?_
  refine tw_bipush (v := 6) hO dX0_init_16 (by decide) ?_
  refine tw_icmp_ge (tgt := 40) hO dX0_init_18 (by decide) (fun cc => absurd cc (by decide)) (fun _ => ?_)
  refine tw_aload_n 1 hO dX0_init_21 rfl rfl ?_
  obtain ⟨v22, e22, h⟩ := tw_bd h
  refine tw_getP hO dX0_init_22 (t := 0) rfl 2 (by decide) rfl tw_w235 rfl e22 ?_
  refine tw_iload_n 0 hO dX0_init_25 rfl rfl ?_
  refine tw_newO hO dX0_init_26 (t := 6) rfl tw_w229 tw_w68 tw_w49 (Nat.le_of_ble_eq_true rfl) (Nat.le_of_ble_eq_true rfl) ?_
  refine tw_dup hO dX0_init_29 rfl ?_
  obtain ⟨σ30, e30, h⟩ := tw_bd h
  refine tw_callIN hO (mX6_init l G e30) cfX6_init rfl (tw_knN5 hO) tw_w70 rfl rfl rfl rfl ⟨(Nat.le_of_ble_eq_true rfl), (Nat.le_of_ble_eq_true rfl)⟩ (Nat.le_of_ble_eq_true rfl) ⟨(Nat.le_of_ble_eq_true rfl), (Nat.le_of_ble_eq_true rfl)⟩ dX0_init_30 ?_
  obtain ⟨σ33, e33, h⟩ := tw_bd h
  refine tw_aast (tv := 6) hO dX0_init_33 (by decide) (by decide) rfl rfl e33 ?_
  refine tw_iinc (q := 0) (v := 1) (lv' := [(1, .int 1), (0, .ref a)]) hO dX0_init_34 rfl (by decide) (by decide) rfl ?_
  refine tw_goto (tgt := 15) hO dX0_init_37 (by decide) ?_
  refine tw_iload_n 0 hO dX0_init_15 rfl rfl ?_
  refine tw_bipush (v := 6) hO dX0_init_16 (by decide) ?_
  refine tw_icmp_ge (tgt := 40) hO dX0_init_18 (by decide) (fun cc => absurd cc (by decide)) (fun _ => ?_)
  refine tw_aload_n 1 hO dX0_init_21 rfl rfl ?_
  obtain ⟨v22, e22, h⟩ := tw_bd h
  refine tw_getP hO dX0_init_22 (t := 0) rfl 2 (by decide) rfl tw_w235 rfl e22 ?_
  refine tw_iload_n 0 hO dX0_init_25 rfl rfl ?_
  refine tw_newO hO dX0_init_26 (t := 6) rfl tw_w229 tw_w68 tw_w49 (Nat.le_of_ble_eq_true rfl) (Nat.le_of_ble_eq_true rfl) ?_
  refine tw_dup hO dX0_init_29 rfl ?_
  obtain ⟨σ30, e30, h⟩ := tw_bd h
  refine tw_callIN hO (mX6_init l G e30) cfX6_init rfl (tw_knN5 hO) tw_w70 rfl rfl rfl rfl ⟨(Nat.le_of_ble_eq_true rfl), (Nat.le_of_ble_eq_true rfl)⟩ (Nat.le_of_ble_eq_true rfl) ⟨(Nat.le_of_ble_eq_true rfl), (Nat.le_of_ble_eq_true rfl)⟩ dX0_init_30 ?_
  obtain ⟨σ33, e33, h⟩ := tw_bd h
  refine tw_aast (tv := 6) hO dX0_init_33 (by decide) (by decide) rfl rfl e33 ?_
  refine tw_iinc (q := 0) (v := 2) (lv' := [(1, .int 2), (0, .ref a)]) hO dX0_init_34 rfl (by decide) (by decide) rfl ?_
  refine tw_goto (tgt := 15) hO dX0_init_37 (by decide) ?_
  refine tw_iload_n 0 hO dX0_init_15 rfl rfl ?_
  refine tw_bipush (v := 6) hO dX0_init_16 (by decide) ?_
  refine tw_icmp_ge (tgt := 40) hO dX0_init_18 (by decide) (fun cc => absurd cc (by decide)) (fun _ => ?_)
  refine tw_aload_n 1 hO dX0_init_21 rfl rfl ?_
  obtain ⟨v22, e22, h⟩ := tw_bd h
  refine tw_getP hO dX0_init_22 (t := 0) rfl 2 (by decide) rfl tw_w235 rfl e22 ?_
  refine tw_iload_n 0 hO dX0_init_25 rfl rfl ?_
  refine tw_newO hO dX0_init_26 (t := 6) rfl tw_w229 tw_w68 tw_w49 (Nat.le_of_ble_eq_true rfl) (Nat.le_of_ble_eq_true rfl) ?_
  refine tw_dup hO dX0_init_29 rfl ?_
  obtain ⟨σ30, e30, h⟩ := tw_bd h
  refine tw_callIN hO (mX6_init l G e30) cfX6_init rfl (tw_knN5 hO) tw_w70 rfl rfl rfl rfl ⟨(Nat.le_of_ble_eq_true rfl), (Nat.le_of_ble_eq_true rfl)⟩ (Nat.le_of_ble_eq_true rfl) ⟨(Nat.le_of_ble_eq_true rfl), (Nat.le_of_ble_eq_true rfl)⟩ dX0_init_30 ?_
  obtain ⟨σ33, e33, h⟩ := tw_bd h
  refine tw_aast (tv := 6) hO dX0_init_33 (by decide) (by decide) rfl rfl e33 ?_
  refine tw_iinc (q := 0) (v := 3) (lv' := [(1, .int 3), (0, .ref a)]) hO dX0_init_34 rfl (by decide) (by decide) rfl ?_
  refine tw_goto (tgt := 15) hO dX0_init_37 (by decide) ?_
  refine tw_iload_n 0 hO dX0_init_15 rfl rfl ?_
  refine tw_bipush (v := 6) hO dX0_init_16 (by decide) ?_
  refine tw_icmp_ge (tgt := 40) hO dX0_init_18 (by decide) (fun cc => absurd cc (by decide)) (fun _ => ?_)
  refine tw_aload_n 1 hO dX0_init_21 rfl rfl ?_
  obtain ⟨v22, e22, h⟩ := tw_bd h
  refine tw_getP hO dX0_init_22 (t := 0) rfl 2 (by decide) rfl tw_w235 rfl e22 ?_
  refine tw_iload_n 0 hO dX0_init_25 rfl rfl ?_
  refine tw_newO hO dX0_init_26 (t := 6) rfl tw_w229 tw_w68 tw_w49 (Nat.le_of_ble_eq_true rfl) (Nat.le_of_ble_eq_true rfl) ?_
  refine tw_dup hO dX0_init_29 rfl ?_
  obtain ⟨σ30, e30, h⟩ := tw_bd h
  refine tw_callIN hO (mX6_init l G e30) cfX6_init rfl (tw_knN5 hO) tw_w70 rfl rfl rfl rfl ⟨(Nat.le_of_ble_eq_true rfl), (Nat.le_of_ble_eq_true rfl)⟩ (Nat.le_of_ble_eq_true rfl) ⟨(Nat.le_of_ble_eq_true rfl), (Nat.le_of_ble_eq_true rfl)⟩ dX0_init_30 ?_
  obtain ⟨σ33, e33, h⟩ := tw_bd h
  refine tw_aast (tv := 6) hO dX0_init_33 (by decide) (by decide) rfl rfl e33 ?_
  refine tw_iinc (q := 0) (v := 4) (lv' := [(1, .int 4), (0, .ref a)]) hO dX0_init_34 rfl (by decide) (by decide) rfl ?_
  refine tw_goto (tgt := 15) hO dX0_init_37 (by decide) ?_
  refine tw_iload_n 0 hO dX0_init_15 rfl rfl ?_
  refine tw_bipush (v := 6) hO dX0_init_16 (by decide) ?_
  refine tw_icmp_ge (tgt := 40) hO dX0_init_18 (by decide) (fun cc => absurd cc (by decide)) (fun _ => ?_)
  refine tw_aload_n 1 hO dX0_init_21 rfl rfl ?_
  obtain ⟨v22, e22, h⟩ := tw_bd h
  refine tw_getP hO dX0_init_22 (t := 0) rfl 2 (by decide) rfl tw_w235 rfl e22 ?_
  refine tw_iload_n 0 hO dX0_init_25 rfl rfl ?_
  refine tw_newO hO dX0_init_26 (t := 6) rfl tw_w229 tw_w68 tw_w49 (Nat.le_of_ble_eq_true rfl) (Nat.le_of_ble_eq_true rfl) ?_
  refine tw_dup hO dX0_init_29 rfl ?_
  obtain ⟨σ30, e30, h⟩ := tw_bd h
  refine tw_callIN hO (mX6_init l G e30) cfX6_init rfl (tw_knN5 hO) tw_w70 rfl rfl rfl rfl ⟨(Nat.le_of_ble_eq_true rfl), (Nat.le_of_ble_eq_true rfl)⟩ (Nat.le_of_ble_eq_true rfl) ⟨(Nat.le_of_ble_eq_true rfl), (Nat.le_of_ble_eq_true rfl)⟩ dX0_init_30 ?_
  obtain ⟨σ33, e33, h⟩ := tw_bd h
  refine tw_aast (tv := 6) hO dX0_init_33 (by decide) (by decide) rfl rfl e33 ?_
  refine tw_iinc (q := 0) (v := 5) (lv' := [(1, .int 5), (0, .ref a)]) hO dX0_init_34 rfl (by decide) (by decide) rfl ?_
  refine tw_goto (tgt := 15) hO dX0_init_37 (by decide) ?_
  refine tw_iload_n 0 hO dX0_init_15 rfl rfl ?_
  refine tw_bipush (v := 6) hO dX0_init_16 (by decide) ?_
  refine tw_icmp_ge (tgt := 40) hO dX0_init_18 (by decide) (fun cc => absurd cc (by decide)) (fun _ => ?_)
  refine tw_aload_n 1 hO dX0_init_21 rfl rfl ?_
  obtain ⟨v22, e22, h⟩ := tw_bd h
  refine tw_getP hO dX0_init_22 (t := 0) rfl 2 (by decide) rfl tw_w235 rfl e22 ?_
  refine tw_iload_n 0 hO dX0_init_25 rfl rfl ?_
  refine tw_newO hO dX0_init_26 (t := 6) rfl tw_w229 tw_w68 tw_w49 (Nat.le_of_ble_eq_true rfl) (Nat.le_of_ble_eq_true rfl) ?_
  refine tw_dup hO dX0_init_29 rfl ?_
  obtain ⟨σ30, e30, h⟩ := tw_bd h
  refine tw_callIN hO (mX6_init l G e30) cfX6_init rfl (tw_knN5 hO) tw_w70 rfl rfl rfl rfl ⟨(Nat.le_of_ble_eq_true rfl), (Nat.le_of_ble_eq_true rfl)⟩ (Nat.le_of_ble_eq_true rfl) ⟨(Nat.le_of_ble_eq_true rfl), (Nat.le_of_ble_eq_true rfl)⟩ dX0_init_30 ?_
  obtain ⟨σ33, e33, h⟩ := tw_bd h
  refine tw_aast (tv := 6) hO dX0_init_33 (by decide) (by decide) rfl rfl e33 ?_
  refine tw_iinc (q := 0) (v := 6) (lv' := [(1, .int 6), (0, .ref a)]) hO dX0_init_34 rfl (by decide) (by decide) rfl ?_
  refine tw_goto (tgt := 15) hO dX0_init_37 (by decide) ?_
  refine tw_iload_n 0 hO dX0_init_15 rfl rfl ?_
  refine tw_bipush (v := 6) hO dX0_init_16 (by decide) ?_
  refine tw_icmp_ge (tgt := 40) hO dX0_init_18 (by decide) (fun _ => ?_) (fun cc => absurd cc (by decide))
  refine tw_wide (Nat.le_of_ble_eq_true rfl : _ ≤ 61) (Nat.le_of_ble_eq_true rfl : _ ≤ 954) ?_
  exact tw_vret hO dX0_init_40 h
theorem cfX6_copyFrom : tw_CF yX6_copyFrom cX6_copyFrom 3 none 1 := ⟨tw_w287, tw_w49, by decide +kernel, by decide +kernel, by decide +kernel⟩
theorem kX6_copyFrom {σ : tw_St} {a : Nat} {r1 : Nat} {q : tw_St} (h : fX6_copyFrom σ a r1 = some q) : tw_is σ 6 a = some () := by
  unfold fX6_copyFrom at h
  obtain ⟨_, e1, -⟩ := tw_bd h
  exact e1
set_option maxRecDepth 100000 in
set_option maxHeartbeats 4000000 in
theorem wX6_copyFrom_h16 (hO : tw_O p s m args meth c cX6_copyFrom RX6 3 none G) {k16 : (tw_St → Nat → Nat → Int32 → Option (tw_St))} (hk16 : ∀ (σ : tw_St) (a0 : Nat) (a1 : Nat) (x2 : Int32) (q : tw_St), k16 σ a0 a1 x2 = some q → tw_X p l e rmX6_copyFrom s m args below meth c 3 G σ 0 0 (tw_Q below args s G 0 0 none q) 16 [(0, .ref a0), (1, .ref a1), (2, .int x2)] []) {σ : tw_St} {a0 : Nat} {a1 : Nat} {x2 : Int32} {q : tw_St} (h : fX6_copyFrom_h16 k16 σ a0 a1 x2 = some q) : tw_X p l e rmX6_copyFrom s m args below meth c 3 G σ 0 0 (tw_Q below args s G 0 0 none q) 16 [(0, .ref a0), (1, .ref a1), (2, .int x2)] [] := by
  unfold fX6_copyFrom_h16 at h
  refine tw_iload_n 2 hO dX6_copyFrom_16 rfl rfl ?_
  refine tw_iconst (v := 2) hO dX6_copyFrom_17 (by decide) ?_
  refine tw_icmp_ge (tgt := 61) hO dX6_copyFrom_18 (by decide) (fun cc => ?_) (fun cc => ?_)
  · replace h := tw_ifp cc h
    exact tw_vret hO dX6_copyFrom_61 h
  · replace h := tw_ifn cc h
    refine tw_aload_n 0 hO dX6_copyFrom_21 rfl rfl ?_
    obtain ⟨v22, e22, h⟩ := tw_bd h
    refine tw_getP hO dX6_copyFrom_22 (t := 6) rfl 1 (by decide) rfl tw_w96 rfl e22 ?_
    refine tw_iload_n 2 hO dX6_copyFrom_25 rfl rfl ?_
    obtain ⟨v26, e26, h⟩ := tw_bd h
    refine tw_aald hO dX6_copyFrom_26 (by decide) (by decide) e26 ?_
    refine tw_aload_n 1 hO dX6_copyFrom_27 rfl rfl ?_
    obtain ⟨v28, e28, h⟩ := tw_bd h
    refine tw_getP hO dX6_copyFrom_28 (t := 6) rfl 1 (by decide) rfl tw_w96 rfl e28 ?_
    refine tw_iload_n 2 hO dX6_copyFrom_31 rfl rfl ?_
    obtain ⟨v32, e32, h⟩ := tw_bd h
    refine tw_aald hO dX6_copyFrom_32 (by decide) (by decide) e32 ?_
    obtain ⟨σ33, e33, h⟩ := tw_bd h
    refine tw_cVv hO (mX3_copyFrom l G e33) cfX3_copyFrom (t := 3) rfl (kX3_copyFrom e33) tw_w291 tw_w292 tw_w293 rfl rfl rfl rfl ⟨(Nat.le_of_ble_eq_true rfl), (Nat.le_of_ble_eq_true rfl)⟩ (Nat.le_of_ble_eq_true rfl) ⟨(Nat.le_of_ble_eq_true rfl), (Nat.le_of_ble_eq_true rfl)⟩ dX6_copyFrom_33 ?_
    refine tw_aload_n 1 hO dX6_copyFrom_36 rfl rfl ?_
    obtain ⟨v37, e37, h⟩ := tw_bd h
    refine tw_getP hO dX6_copyFrom_37 (t := 6) rfl 2 (by decide) rfl tw_w99 rfl e37 ?_
    refine tw_iload_n 2 hO dX6_copyFrom_40 rfl rfl ?_
    obtain ⟨v41, e41, h⟩ := tw_bd h
    refine tw_aald hO dX6_copyFrom_41 (by decide) (by decide) e41 ?_
    refine tw_iconst (v := 0) hO dX6_copyFrom_42 (by decide) ?_
    refine tw_aload_n 0 hO dX6_copyFrom_43 rfl rfl ?_
    obtain ⟨v44, e44, h⟩ := tw_bd h
    refine tw_getP hO dX6_copyFrom_44 (t := 6) rfl 2 (by decide) rfl tw_w99 rfl e44 ?_
    refine tw_iload_n 2 hO dX6_copyFrom_47 rfl rfl ?_
    obtain ⟨v48, e48, h⟩ := tw_bd h
    refine tw_aald hO dX6_copyFrom_48 (by decide) (by decide) e48 ?_
    refine tw_iconst (v := 0) hO dX6_copyFrom_49 (by decide) ?_
    refine tw_bipush (v := 12) hO dX6_copyFrom_50 (by decide) ?_
    obtain ⟨σ52, e52, h⟩ := tw_bd h
    refine tw_copy hO dX6_copyFrom_52 tw_w288 tw_w290 tw_w289 tw_w57 (Nat.le_of_ble_eq_true rfl) (Nat.le_of_ble_eq_true rfl) e52 ?_
    refine tw_iinc (q := 2) (v := (x2 + 1)) (lv' := [(2, .int (x2 + 1)), (0, .ref a0), (1, .ref a1)]) hO dX6_copyFrom_55 rfl rfl (by decide) rfl ?_
    refine tw_goto (tgt := 16) hO dX6_copyFrom_58 (by decide) ?_
    refine tw_sub [1, 2, 0] rfl ?_
    exact hk16 _ _ _ _ _ h
set_option maxRecDepth 100000 in
set_option maxHeartbeats 4000000 in
theorem wX6_copyFrom_l16 (hO : tw_O p s m args meth c cX6_copyFrom RX6 3 none G) : ∀ (n : Nat) (σ : tw_St) (a0 : Nat) (a1 : Nat) (x2 : Int32) (q : tw_St), fX6_copyFrom_l16 n σ a0 a1 x2 = some q → tw_X p l e rmX6_copyFrom s m args below meth c 3 G σ 0 0 (tw_Q below args s G 0 0 none q) 16 [(0, .ref a0), (1, .ref a1), (2, .int x2)] [] := by
  intro n
  induction n with
  | zero => intro _ _ _ _ q h; cases (show (none : Option (tw_St)) = some q from h)
  | succ n ih => intro _ _ _ _ q h; exact wX6_copyFrom_h16 hO ih h
set_option maxRecDepth 100000 in
set_option maxHeartbeats 4000000 in
theorem mX6_copyFrom (l : Launch) (G : tw_G) {σ : tw_St} {a : Nat} {r1 : Nat} {q : tw_St} (h : fX6_copyFrom σ a r1 = some q) : tw_M l G yX6_copyFrom cX6_copyFrom 3 none rmX6_copyFrom 0 0 σ [.ref a, .ref r1] none q := by
  unfold fX6_copyFrom at h
  obtain ⟨_, -, h⟩ := tw_bd h
  refine tw_M.of (by decide +kernel) (Nat.le_of_ble_eq_true rfl) (fun p e s m args below meth c hnm hO => ?_)
  have hO : tw_O p s m args meth c cX6_copyFrom RX6 3 none G := hO
  refine tw_aload_n 1 hO dX6_copyFrom_0 rfl rfl ?_
  obtain ⟨v1, e1, h⟩ := tw_bd h
  refine tw_getP hO dX6_copyFrom_1 (t := 6) rfl 0 (by decide) rfl tw_w93 rfl e1 ?_
  refine tw_iconst (v := 0) hO dX6_copyFrom_4 (by decide) ?_
  refine tw_aload_n 0 hO dX6_copyFrom_5 rfl rfl ?_
  obtain ⟨v6, e6, h⟩ := tw_bd h
  refine tw_getP hO dX6_copyFrom_6 (t := 6) rfl 0 (by decide) rfl tw_w93 rfl e6 ?_
  refine tw_iconst (v := 0) hO dX6_copyFrom_9 (by decide) ?_
  refine tw_iconst (v := 3) hO dX6_copyFrom_10 (by decide) ?_
  obtain ⟨σ11, e11, h⟩ := tw_bd h
  refine tw_copy hO dX6_copyFrom_11 tw_w288 tw_w290 tw_w289 tw_w57 (Nat.le_of_ble_eq_true rfl) (Nat.le_of_ble_eq_true rfl) e11 ?_
  refine tw_iconst (v := 0) hO dX6_copyFrom_14 (by decide) ?_
  refine tw_istore_n (lv' := [(2, .int 0), (0, .ref a), (1, .ref r1)]) hO dX6_copyFrom_15 rfl (by decide) rfl ?_
  refine tw_sub [1, 2, 0] rfl ?_
  exact wX6_copyFrom_l16 hO _ _ _ _ _ _ h
theorem cfX0_record : tw_CF yX0_record cX0_record 2 none 1 := ⟨tw_w283, tw_w55, by decide +kernel, by decide +kernel, by decide +kernel⟩
theorem kX0_record {σ : tw_St} {a : Nat} {r1 : Nat} {q : tw_St} (h : fX0_record σ a r1 = some q) : tw_is σ 0 a = some () := by
  unfold fX0_record at h
  obtain ⟨_, e1, -⟩ := tw_bd h
  exact e1
set_option maxRecDepth 100000 in
set_option maxHeartbeats 4000000 in
theorem mX0_record (l : Launch) (G : tw_G) {σ : tw_St} {a : Nat} {r1 : Nat} {q : tw_St} (h : fX0_record σ a r1 = some q) : tw_M l G yX0_record cX0_record 2 none rmX0_record 0 0 σ [.ref a, .ref r1] none q := by
  unfold fX0_record at h
  obtain ⟨_, -, h⟩ := tw_bd h
  refine tw_M.of (by decide +kernel) (Nat.le_of_ble_eq_true rfl) (fun p e s m args below meth c hnm hO => ?_)
  have hO : tw_O p s m args meth c cX0_record RX0 2 none G := hO
  refine tw_aload_n 0 hO dX0_record_0 rfl rfl ?_
  obtain ⟨v1, e1, h⟩ := tw_bd h
  refine tw_getP hO dX0_record_1 (t := 0) rfl 2 (by decide) rfl tw_w235 rfl e1 ?_
  refine tw_aload_n 0 hO dX0_record_4 rfl rfl ?_
  obtain ⟨v5, e5, h⟩ := tw_bd h
  refine tw_getI hO dX0_record_5 (t := 0) rfl 1 (by decide) rfl tw_w234 rfl e5 ?_
  refine tw_aload_n 0 hO dX0_record_8 rfl rfl ?_
  obtain ⟨v9, e9, h⟩ := tw_bd h
  refine tw_getI hO dX0_record_9 (t := 0) rfl 0 (by decide) rfl tw_w232 rfl e9 ?_
  refine tw_iadd hO dX0_record_12 ?_
  refine tw_bipush (v := 6) hO dX0_record_13 (by decide) ?_
  refine tw_irem hO dX0_record_15 (by decide) ?_
  obtain ⟨v16, e16, h⟩ := tw_bd h
  refine tw_aald hO dX0_record_16 (by decide) (by decide) e16 ?_
  refine tw_aload_n 1 hO dX0_record_17 rfl rfl ?_
  obtain ⟨σ18, e18, h⟩ := tw_bd h
  refine tw_cVv hO (mX6_copyFrom l G e18) cfX6_copyFrom (t := 6) rfl (kX6_copyFrom e18) tw_w284 tw_w285 tw_w286 rfl rfl rfl rfl ⟨(Nat.le_of_ble_eq_true rfl), (Nat.le_of_ble_eq_true rfl)⟩ (Nat.le_of_ble_eq_true rfl) ⟨(Nat.le_of_ble_eq_true rfl), (Nat.le_of_ble_eq_true rfl)⟩ dX0_record_18 ?_
  refine tw_aload_n 0 hO dX0_record_21 rfl rfl ?_
  obtain ⟨v22, e22, h⟩ := tw_bd h
  refine tw_getI hO dX0_record_22 (t := 0) rfl 0 (by decide) rfl tw_w232 rfl e22 ?_
  refine tw_bipush (v := 6) hO dX0_record_25 (by decide) ?_
  refine tw_icmp_ge (tgt := 43) hO dX0_record_27 (by decide) (fun cc => ?_) (fun cc => ?_)
  · replace h := tw_ifp cc h
    refine tw_aload_n 0 hO dX0_record_43 rfl rfl ?_
    refine tw_aload_n 0 hO dX0_record_44 rfl rfl ?_
    obtain ⟨v45, e45, h⟩ := tw_bd h
    refine tw_getI hO dX0_record_45 (t := 0) rfl 1 (by decide) rfl tw_w234 rfl e45 ?_
    refine tw_iconst (v := 1) hO dX0_record_48 (by decide) ?_
    refine tw_iadd hO dX0_record_49 ?_
    refine tw_bipush (v := 6) hO dX0_record_50 (by decide) ?_
    refine tw_irem hO dX0_record_52 (by decide) ?_
    obtain ⟨σ53, e53, h⟩ := tw_bd h
    refine tw_putI hO dX0_record_53 (t := 0) rfl 1 (by decide) rfl tw_w234 rfl rfl ⟨rfl, rfl⟩ e53 ?_
    exact tw_vret hO dX0_record_56 h
  · replace h := tw_ifn cc h
    refine tw_aload_n 0 hO dX0_record_30 rfl rfl ?_
    refine tw_dup hO dX0_record_31 rfl ?_
    obtain ⟨v32, e32, h⟩ := tw_bd h
    refine tw_getI hO dX0_record_32 (t := 0) rfl 0 (by decide) rfl tw_w232 rfl e32 ?_
    refine tw_iconst (v := 1) hO dX0_record_35 (by decide) ?_
    refine tw_iadd hO dX0_record_36 ?_
    obtain ⟨σ37, e37, h⟩ := tw_bd h
    refine tw_putI hO dX0_record_37 (t := 0) rfl 0 (by decide) rfl tw_w232 rfl rfl ⟨rfl, rfl⟩ e37 ?_
    refine tw_goto (tgt := 56) hO dX0_record_40 (by decide) ?_
    exact tw_vret hO dX0_record_56 h
theorem cfX6_ticksFor : tw_CF yX6_ticksFor cX6_ticksFor 2 (some .int) 1 := ⟨tw_w377, tw_w49, by decide +kernel, by decide +kernel, by decide +kernel⟩
theorem kX6_ticksFor {σ : tw_St} {a : Nat} {x1 : Int32} {q : Int32} (h : fX6_ticksFor σ a x1 = some q) : tw_is σ 6 a = some () := by
  unfold fX6_ticksFor at h
  obtain ⟨_, e1, -⟩ := tw_bd h
  exact e1
set_option maxRecDepth 100000 in
set_option maxHeartbeats 4000000 in
theorem mX6_ticksFor (l : Launch) (G : tw_G) {σ : tw_St} {a : Nat} {x1 : Int32} {q : Int32} (h : fX6_ticksFor σ a x1 = some q) : tw_M l G yX6_ticksFor cX6_ticksFor 2 (some .int) rmX6_ticksFor 0 0 σ [.ref a, .int x1] (some (.int q)) σ := by
  unfold fX6_ticksFor at h
  obtain ⟨_, -, h⟩ := tw_bd h
  refine tw_M.of (by decide +kernel) (Nat.le_of_ble_eq_true rfl) (fun p e s m args below meth c hnm hO => ?_)
  have hO : tw_O p s m args meth c cX6_ticksFor RX6 2 (some .int) G := hO
  refine tw_iload_n 1 hO dX6_ticksFor_0 rfl rfl ?_
  refine tw_if_ne (tgt := 11) hO dX6_ticksFor_1 (by decide) (fun cc => ?_) (fun cc => ?_)
  · replace h := tw_ifn cc h
    refine tw_iload_n 1 hO dX6_ticksFor_11 rfl rfl ?_
    refine tw_iconst (v := 1) hO dX6_ticksFor_12 (by decide) ?_
    refine tw_icmp_ne (tgt := 25) hO dX6_ticksFor_13 (by decide) (fun cc => ?_) (fun cc => ?_)
    · replace h := tw_ifn cc h
      refine tw_iconst (v := 1) hO dX6_ticksFor_25 (by decide) ?_
      exact tw_iretR hO dX6_ticksFor_26 h
    · replace h := tw_ifp cc h
      refine tw_aload_n 0 hO dX6_ticksFor_16 rfl rfl ?_
      obtain ⟨v17, e17, h⟩ := tw_bd h
      refine tw_getP hO dX6_ticksFor_17 (t := 6) rfl 0 (by decide) rfl tw_w93 rfl e17 ?_
      refine tw_iconst (v := 2) hO dX6_ticksFor_20 (by decide) ?_
      obtain ⟨v21, e21, h⟩ := tw_bd h
      refine tw_iald hO dX6_ticksFor_21 e21 ?_
      refine tw_goto (tgt := 26) hO dX6_ticksFor_22 (by decide) ?_
      exact tw_iretR hO dX6_ticksFor_26 h
  · replace h := tw_ifp cc h
    refine tw_aload_n 0 hO dX6_ticksFor_4 rfl rfl ?_
    obtain ⟨v5, e5, h⟩ := tw_bd h
    refine tw_getP hO dX6_ticksFor_5 (t := 6) rfl 0 (by decide) rfl tw_w93 rfl e5 ?_
    refine tw_iconst (v := 1) hO dX6_ticksFor_8 (by decide) ?_
    obtain ⟨v9, e9, h⟩ := tw_bd h
    refine tw_iald hO dX6_ticksFor_9 e9 ?_
    exact tw_iretR hO dX6_ticksFor_10 h
theorem cfX6_exchangeThreads : tw_CF yX6_exchangeThreads cX6_exchangeThreads 3 none 0 := ⟨tw_w478, tw_w49, by decide +kernel, by decide +kernel, by decide +kernel⟩
theorem kX6_exchangeThreads {σ : tw_St} {a : Nat} {q : tw_St} (h : fX6_exchangeThreads σ a = some q) : tw_is σ 6 a = some () := by
  unfold fX6_exchangeThreads at h
  obtain ⟨_, e1, -⟩ := tw_bd h
  exact e1
set_option maxRecDepth 100000 in
set_option maxHeartbeats 4000000 in
theorem mX6_exchangeThreads (l : Launch) (G : tw_G) {σ : tw_St} {a : Nat} {q : tw_St} (h : fX6_exchangeThreads σ a = some q) : tw_M l G yX6_exchangeThreads cX6_exchangeThreads 3 none rmX6_exchangeThreads 0 0 σ [.ref a] none q := by
  unfold fX6_exchangeThreads at h
  obtain ⟨_, -, h⟩ := tw_bd h
  refine tw_M.of (by decide +kernel) (Nat.le_of_ble_eq_true rfl) (fun p e s m args below meth c hnm hO => ?_)
  have hO : tw_O p s m args meth c cX6_exchangeThreads RX6 3 none G := hO
  refine tw_aload_n 0 hO dX6_exchangeThreads_0 rfl rfl ?_
  obtain ⟨v1, e1, h⟩ := tw_bd h
  refine tw_getP hO dX6_exchangeThreads_1 (t := 6) rfl 1 (by decide) rfl tw_w96 rfl e1 ?_
  refine tw_iconst (v := 0) hO dX6_exchangeThreads_4 (by decide) ?_
  obtain ⟨v5, e5, h⟩ := tw_bd h
  refine tw_aald hO dX6_exchangeThreads_5 (by decide) (by decide) e5 ?_
  refine tw_astore_n (lv' := [(1, .ref v5), (0, .ref a)]) hO dX6_exchangeThreads_6 rfl (by decide) rfl ?_
  refine tw_aload_n 1 hO dX6_exchangeThreads_7 rfl rfl ?_
  obtain ⟨v8, e8, h⟩ := tw_bd h
  refine tw_getP hO dX6_exchangeThreads_8 (t := 6) rfl 1 (by decide) rfl tw_w96 rfl e8 ?_
  refine tw_iconst (v := 0) hO dX6_exchangeThreads_11 (by decide) ?_
  refine tw_aload_n 1 hO dX6_exchangeThreads_12 rfl rfl ?_
  obtain ⟨v13, e13, h⟩ := tw_bd h
  refine tw_getP hO dX6_exchangeThreads_13 (t := 6) rfl 1 (by decide) rfl tw_w96 rfl e13 ?_
  refine tw_iconst (v := 1) hO dX6_exchangeThreads_16 (by decide) ?_
  obtain ⟨v17, e17, h⟩ := tw_bd h
  refine tw_aald hO dX6_exchangeThreads_17 (by decide) (by decide) e17 ?_
  obtain ⟨σ18, e18, h⟩ := tw_bd h
  refine tw_aast (tv := 3) hO dX6_exchangeThreads_18 (by decide) (by decide) rfl rfl e18 ?_
  refine tw_aload_n 1 hO dX6_exchangeThreads_19 rfl rfl ?_
  obtain ⟨v20, e20, h⟩ := tw_bd h
  refine tw_getP hO dX6_exchangeThreads_20 (t := 6) rfl 1 (by decide) rfl tw_w96 rfl e20 ?_
  refine tw_iconst (v := 1) hO dX6_exchangeThreads_23 (by decide) ?_
  refine tw_aload_n 0 hO dX6_exchangeThreads_24 rfl rfl ?_
  obtain ⟨σ25, e25, h⟩ := tw_bd h
  refine tw_aast (tv := 3) hO dX6_exchangeThreads_25 (by decide) (by decide) rfl rfl e25 ?_
  refine tw_aload_n 1 hO dX6_exchangeThreads_26 rfl rfl ?_
  obtain ⟨v27, e27, h⟩ := tw_bd h
  refine tw_getP hO dX6_exchangeThreads_27 (t := 6) rfl 2 (by decide) rfl tw_w99 rfl e27 ?_
  refine tw_iconst (v := 0) hO dX6_exchangeThreads_30 (by decide) ?_
  obtain ⟨v31, e31, h⟩ := tw_bd h
  refine tw_aald hO dX6_exchangeThreads_31 (by decide) (by decide) e31 ?_
  refine tw_astore_n (lv' := [(2, .ref v31), (1, .ref v5), (0, .ref a)]) hO dX6_exchangeThreads_32 rfl (by decide) rfl ?_
  refine tw_aload_n 2 hO dX6_exchangeThreads_33 rfl rfl ?_
  obtain ⟨v34, e34, h⟩ := tw_bd h
  refine tw_getP hO dX6_exchangeThreads_34 (t := 6) rfl 2 (by decide) rfl tw_w99 rfl e34 ?_
  refine tw_iconst (v := 0) hO dX6_exchangeThreads_37 (by decide) ?_
  refine tw_aload_n 2 hO dX6_exchangeThreads_38 rfl rfl ?_
  obtain ⟨v39, e39, h⟩ := tw_bd h
  refine tw_getP hO dX6_exchangeThreads_39 (t := 6) rfl 2 (by decide) rfl tw_w99 rfl e39 ?_
  refine tw_iconst (v := 1) hO dX6_exchangeThreads_42 (by decide) ?_
  obtain ⟨v43, e43, h⟩ := tw_bd h
  refine tw_aald hO dX6_exchangeThreads_43 (by decide) (by decide) e43 ?_
  obtain ⟨σ44, e44, h⟩ := tw_bd h
  refine tw_aastI hO dX6_exchangeThreads_44 e44 ?_
  refine tw_aload_n 2 hO dX6_exchangeThreads_45 rfl rfl ?_
  obtain ⟨v46, e46, h⟩ := tw_bd h
  refine tw_getP hO dX6_exchangeThreads_46 (t := 6) rfl 2 (by decide) rfl tw_w99 rfl e46 ?_
  refine tw_iconst (v := 1) hO dX6_exchangeThreads_49 (by decide) ?_
  refine tw_aload_n 0 hO dX6_exchangeThreads_50 rfl rfl ?_
  obtain ⟨σ51, e51, h⟩ := tw_bd h
  refine tw_aastI hO dX6_exchangeThreads_51 e51 ?_
  exact tw_vret hO dX6_exchangeThreads_52 h
theorem cfX0_takeBack : tw_CF yX0_takeBack cX0_takeBack 2 none 1 := ⟨tw_w580, tw_w55, by decide +kernel, by decide +kernel, by decide +kernel⟩
theorem kX0_takeBack {σ : tw_St} {a : Nat} {r1 : Nat} {q : tw_St} (h : fX0_takeBack σ a r1 = some q) : tw_is σ 0 a = some () := by
  unfold fX0_takeBack at h
  obtain ⟨_, e1, -⟩ := tw_bd h
  exact e1
set_option maxRecDepth 100000 in
set_option maxHeartbeats 4000000 in
theorem mX0_takeBack (l : Launch) (G : tw_G) {σ : tw_St} {a : Nat} {r1 : Nat} {q : tw_St} (h : fX0_takeBack σ a r1 = some q) : tw_M l G yX0_takeBack cX0_takeBack 2 none rmX0_takeBack 0 0 σ [.ref a, .ref r1] none q := by
  unfold fX0_takeBack at h
  obtain ⟨_, -, h⟩ := tw_bd h
  refine tw_M.of (by decide +kernel) (Nat.le_of_ble_eq_true rfl) (fun p e s m args below meth c hnm hO => ?_)
  have hO : tw_O p s m args meth c cX0_takeBack RX0 2 none G := hO
  refine tw_aload_n 0 hO dX0_takeBack_0 rfl rfl ?_
  obtain ⟨v1, e1, h⟩ := tw_bd h
  refine tw_getI hO dX0_takeBack_1 (t := 0) rfl 0 (by decide) rfl tw_w232 rfl e1 ?_
  refine tw_if_ne (tgt := 8) hO dX0_takeBack_4 (by decide) (fun cc => ?_) (fun cc => ?_)
  · replace h := tw_ifn cc h
    refine tw_aload_n 0 hO dX0_takeBack_8 rfl rfl ?_
    refine tw_dup hO dX0_takeBack_9 rfl ?_
    obtain ⟨v10, e10, h⟩ := tw_bd h
    refine tw_getI hO dX0_takeBack_10 (t := 0) rfl 0 (by decide) rfl tw_w232 rfl e10 ?_
    refine tw_iconst (v := 1) hO dX0_takeBack_13 (by decide) ?_
    refine tw_isub hO dX0_takeBack_14 ?_
    obtain ⟨σ15, e15, h⟩ := tw_bd h
    refine tw_putI hO dX0_takeBack_15 (t := 0) rfl 0 (by decide) rfl tw_w232 rfl rfl ⟨rfl, rfl⟩ e15 ?_
    refine tw_aload_n 1 hO dX0_takeBack_18 rfl rfl ?_
    refine tw_aload_n 0 hO dX0_takeBack_19 rfl rfl ?_
    obtain ⟨v20, e20, h⟩ := tw_bd h
    refine tw_getP hO dX0_takeBack_20 (t := 0) rfl 2 (by decide) rfl tw_w235 rfl e20 ?_
    refine tw_aload_n 0 hO dX0_takeBack_23 rfl rfl ?_
    obtain ⟨v24, e24, h⟩ := tw_bd h
    refine tw_getI hO dX0_takeBack_24 (t := 0) rfl 1 (by decide) rfl tw_w234 rfl e24 ?_
    refine tw_aload_n 0 hO dX0_takeBack_27 rfl rfl ?_
    obtain ⟨v28, e28, h⟩ := tw_bd h
    refine tw_getI hO dX0_takeBack_28 (t := 0) rfl 0 (by decide) rfl tw_w232 rfl e28 ?_
    refine tw_iadd hO dX0_takeBack_31 ?_
    refine tw_bipush (v := 6) hO dX0_takeBack_32 (by decide) ?_
    refine tw_irem hO dX0_takeBack_34 (by decide) ?_
    obtain ⟨v35, e35, h⟩ := tw_bd h
    refine tw_aald hO dX0_takeBack_35 (by decide) (by decide) e35 ?_
    obtain ⟨σ36, e36, h⟩ := tw_bd h
    refine tw_cVv hO (mX6_copyFrom l G e36) cfX6_copyFrom (t := 6) rfl (kX6_copyFrom e36) tw_w284 tw_w285 tw_w286 rfl rfl rfl rfl ⟨(Nat.le_of_ble_eq_true rfl), (Nat.le_of_ble_eq_true rfl)⟩ (Nat.le_of_ble_eq_true rfl) ⟨(Nat.le_of_ble_eq_true rfl), (Nat.le_of_ble_eq_true rfl)⟩ dX0_takeBack_36 ?_
    exact tw_vret hO dX0_takeBack_39 h
  · replace h := tw_ifp cc h
    exact tw_vret hO dX0_takeBack_7 h
end TW_05c_X6_X0
