section TW_05b_X2_X4
variable {p : Program} {l : Launch} {e : Env} {s : State} {m : MethodId} {args : Array Value} {below : List Frame} {meth : Method} {c : Code} {G : tw_G}
theorem cfX2_init : tw_CF yX2_init cX2_init 1 none 0 := ⟨tw_w120, tw_w52, by decide +kernel, by decide +kernel, by decide +kernel⟩
theorem kX2_init {σ : tw_St} {a : Nat} {q : tw_St} (h : fX2_init σ a = some q) : tw_is σ 2 a = some () := by
  unfold fX2_init at h
  obtain ⟨_, e1, -⟩ := tw_bd h
  exact e1
set_option maxRecDepth 100000 in
set_option maxHeartbeats 4000000 in
theorem mX2_init (l : Launch) (G : tw_G) {σ : tw_St} {a : Nat} {q : tw_St} (h : fX2_init σ a = some q) : tw_M l G yX2_init cX2_init 1 none rmX2_init 2 112 σ [.ref a] none q := by
  unfold fX2_init at h
  obtain ⟨_, -, h⟩ := tw_bd h
  refine tw_M.of (by decide +kernel) (Nat.le_of_ble_eq_true rfl) (fun p e s m args below meth c hnm hO => ?_)
  have hO : tw_O p s m args meth c cX2_init RX2 1 none G := hO
  refine tw_aload_n 0 hO dX2_init_0 rfl rfl ?_
  refine tw_objI hO dX2_init_1 tw_w121 tw_w65 tw_w66 (Nat.le_of_ble_eq_true rfl) (Nat.le_of_ble_eq_true rfl) ?_
  refine tw_aload_n 0 hO dX2_init_4 rfl rfl ?_
  refine tw_bipush (v := 100) hO dX2_init_5 (by decide) ?_
  refine tw_newA (t := 20) (N := 100) hO dX2_init_7 ⟨by decide, by decide⟩ rfl tw_w90 (by decide) (by decide) (Nat.le_of_ble_eq_true rfl) (Nat.le_of_ble_eq_true rfl) (Nat.le_of_ble_eq_true rfl) ?_
  obtain ⟨σ9, e9, h⟩ := tw_bd h
  refine tw_putP hO hnm dX2_init_9 (t := 2) rfl 2 (by decide) rfl rfl tw_w126 rfl rfl ⟨rfl, rfl⟩ e9 ?_
  refine tw_aload_n 0 hO dX2_init_12 rfl rfl ?_
  refine tw_bipush (v := 12) hO dX2_init_13 (by decide) ?_
  refine tw_newA (t := 20) (N := 12) hO dX2_init_15 ⟨by decide, by decide⟩ rfl tw_w90 (by decide) (by decide) (Nat.le_of_ble_eq_true rfl) (Nat.le_of_ble_eq_true rfl) (Nat.le_of_ble_eq_true rfl) ?_
  obtain ⟨σ17, e17, h⟩ := tw_bd h
  refine tw_putP hO hnm dX2_init_17 (t := 2) rfl 3 (by decide) rfl rfl tw_w129 rfl rfl ⟨rfl, rfl⟩ e17 ?_
  refine tw_wide (Nat.le_of_ble_eq_true rfl : _ ≤ 2) (Nat.le_of_ble_eq_true rfl : _ ≤ 112) ?_
  exact tw_vret hO dX2_init_20 h
theorem cfX4_init : tw_CF yX4_init cX4_init 2 none 1 := ⟨tw_w204, tw_w54, by decide +kernel, by decide +kernel, by decide +kernel⟩
theorem kX4_init {σ : tw_St} {a : Nat} {r1 : Nat} {q : tw_St} (h : fX4_init σ a r1 = some q) : tw_is σ 4 a = some () := by
  unfold fX4_init at h
  obtain ⟨_, e1, -⟩ := tw_bd h
  exact e1
set_option maxRecDepth 100000 in
set_option maxHeartbeats 4000000 in
theorem mX4_init (l : Launch) (G : tw_G) {σ : tw_St} {a : Nat} {r1 : Nat} {q : tw_St} (h : fX4_init σ a r1 = some q) : tw_M l G yX4_init cX4_init 2 none rmX4_init 2 62 σ [.ref a, .ref r1] none q := by
  unfold fX4_init at h
  obtain ⟨_, -, h⟩ := tw_bd h
  refine tw_M.of (by decide +kernel) (Nat.le_of_ble_eq_true rfl) (fun p e s m args below meth c hnm hO => ?_)
  have hO : tw_O p s m args meth c cX4_init RX4 2 none G := hO
  refine tw_aload_n 0 hO dX4_init_0 rfl rfl ?_
  refine tw_objI hO dX4_init_1 tw_w205 tw_w65 tw_w66 (Nat.le_of_ble_eq_true rfl) (Nat.le_of_ble_eq_true rfl) ?_
  refine tw_aload_n 0 hO dX4_init_4 rfl rfl ?_
  refine tw_newO hO dX4_init_5 (t := 3) rfl tw_w206 tw_w75 tw_w50 (Nat.le_of_ble_eq_true rfl) (Nat.le_of_ble_eq_true rfl) ?_
  refine tw_dup hO dX4_init_8 rfl ?_
  obtain ⟨σ9, e9, h⟩ := tw_bd h
  refine tw_callIN hO (mX3_init l G e9) cfX3_init rfl (tw_knN4 hO) tw_w77 rfl rfl rfl rfl ⟨(Nat.le_of_ble_eq_true rfl), (Nat.le_of_ble_eq_true rfl)⟩ (Nat.le_of_ble_eq_true rfl) ⟨(Nat.le_of_ble_eq_true rfl), (Nat.le_of_ble_eq_true rfl)⟩ dX4_init_9 ?_
  obtain ⟨σ12, e12, h⟩ := tw_bd h
  refine tw_putP hO hnm dX4_init_12 (t := 4) rfl 0 (by decide) rfl rfl tw_w208 rfl rfl ⟨rfl, rfl⟩ e12 ?_
  refine tw_aload_n 0 hO dX4_init_15 rfl rfl ?_
  refine tw_aload_n 1 hO dX4_init_16 rfl rfl ?_
  obtain ⟨σ17, e17, h⟩ := tw_bd h
  refine tw_putP hO hnm dX4_init_17 (t := 4) rfl 2 (by decide) rfl rfl tw_w212 rfl rfl ⟨rfl, rfl⟩ e17 ?_
  refine tw_wide (Nat.le_of_ble_eq_true rfl : _ ≤ 2) (Nat.le_of_ble_eq_true rfl : _ ≤ 62) ?_
  exact tw_vret hO dX4_init_20 h
theorem cfX2_valueOf : tw_CF yX2_valueOf cX2_valueOf 2 (some .int) 1 := ⟨tw_w320, tw_w52, by decide +kernel, by decide +kernel, by decide +kernel⟩
theorem kX2_valueOf {σ : tw_St} {a : Nat} {x1 : Int32} {q : Int32} (h : fX2_valueOf σ a x1 = some q) : tw_is σ 2 a = some () := by
  unfold fX2_valueOf at h
  obtain ⟨_, e1, -⟩ := tw_bd h
  exact e1
set_option maxRecDepth 100000 in
set_option maxHeartbeats 4000000 in
theorem mX2_valueOf (l : Launch) (G : tw_G) {σ : tw_St} {a : Nat} {x1 : Int32} {q : Int32} (h : fX2_valueOf σ a x1 = some q) : tw_M l G yX2_valueOf cX2_valueOf 2 (some .int) rmX2_valueOf 0 0 σ [.ref a, .int x1] (some (.int q)) σ := by
  unfold fX2_valueOf at h
  obtain ⟨_, -, h⟩ := tw_bd h
  refine tw_M.of (by decide +kernel) (Nat.le_of_ble_eq_true rfl) (fun p e s m args below meth c hnm hO => ?_)
  have hO : tw_O p s m args meth c cX2_valueOf RX2 2 (some .int) G := hO
  refine tw_iload_n 1 hO dX2_valueOf_0 rfl rfl ?_
  refine tw_if_lt (tgt := 18) hO dX2_valueOf_1 (by decide) (fun cc => ?_) (fun cc => ?_)
  · replace h := tw_ifp cc h
    refine tw_iconst (v := 0) hO dX2_valueOf_18 (by decide) ?_
    exact tw_iretR hO dX2_valueOf_19 h
  · replace h := tw_ifn cc h
    refine tw_iload_n 1 hO dX2_valueOf_4 rfl rfl ?_
    refine tw_iconst (v := 4) hO dX2_valueOf_5 (by decide) ?_
    refine tw_icmp_ge (tgt := 18) hO dX2_valueOf_6 (by decide) (fun cc => ?_) (fun cc => ?_)
    · replace h := tw_ifp cc h
      refine tw_iconst (v := 0) hO dX2_valueOf_18 (by decide) ?_
      exact tw_iretR hO dX2_valueOf_19 h
    · replace h := tw_ifn cc h
      refine tw_aload_n 0 hO dX2_valueOf_9 rfl rfl ?_
      obtain ⟨v10, e10, h⟩ := tw_bd h
      refine tw_getP hO dX2_valueOf_10 (t := 2) rfl 3 (by decide) rfl tw_w129 rfl e10 ?_
      refine tw_iload_n 1 hO dX2_valueOf_13 rfl rfl ?_
      obtain ⟨v14, e14, h⟩ := tw_bd h
      refine tw_iald hO dX2_valueOf_14 e14 ?_
      refine tw_goto (tgt := 19) hO dX2_valueOf_15 (by decide) ?_
      exact tw_iretR hO dX2_valueOf_19 h
theorem cfX2_give : tw_CF yX2_give cX2_give 3 none 2 := ⟨tw_w324, tw_w52, by decide +kernel, by decide +kernel, by decide +kernel⟩
theorem kX2_give {σ : tw_St} {a : Nat} {x1 : Int32} {x2 : Int32} {q : tw_St} (h : fX2_give σ a x1 x2 = some q) : tw_is σ 2 a = some () := by
  unfold fX2_give at h
  obtain ⟨_, e1, -⟩ := tw_bd h
  exact e1
set_option maxRecDepth 100000 in
set_option maxHeartbeats 4000000 in
theorem mX2_give (l : Launch) (G : tw_G) {σ : tw_St} {a : Nat} {x1 : Int32} {x2 : Int32} {q : tw_St} (h : fX2_give σ a x1 x2 = some q) : tw_M l G yX2_give cX2_give 3 none rmX2_give 0 0 σ [.ref a, .int x1, .int x2] none q := by
  unfold fX2_give at h
  obtain ⟨_, -, h⟩ := tw_bd h
  refine tw_M.of (by decide +kernel) (Nat.le_of_ble_eq_true rfl) (fun p e s m args below meth c hnm hO => ?_)
  have hO : tw_O p s m args meth c cX2_give RX2 3 none G := hO
  refine tw_iload_n 1 hO dX2_give_0 rfl rfl ?_
  refine tw_if_lt (tgt := 22) hO dX2_give_1 (by decide) (fun cc => ?_) (fun cc => ?_)
  · replace h := tw_ifp cc h
    exact tw_vret hO dX2_give_22 h
  · replace h := tw_ifn cc h
    refine tw_iload_n 1 hO dX2_give_4 rfl rfl ?_
    refine tw_iconst (v := 4) hO dX2_give_5 (by decide) ?_
    refine tw_icmp_ge (tgt := 22) hO dX2_give_6 (by decide) (fun cc => ?_) (fun cc => ?_)
    · replace h := tw_ifp cc h
      exact tw_vret hO dX2_give_22 h
    · replace h := tw_ifn cc h
      refine tw_aload_n 0 hO dX2_give_9 rfl rfl ?_
      obtain ⟨v10, e10, h⟩ := tw_bd h
      refine tw_getP hO dX2_give_10 (t := 2) rfl 3 (by decide) rfl tw_w129 rfl e10 ?_
      refine tw_iload_n 1 hO dX2_give_13 rfl rfl ?_
      refine tw_iload_n 2 hO dX2_give_14 rfl rfl ?_
      refine tw_sipush (v := 1000) hO dX2_give_15 (by decide) ?_
      obtain ⟨v18, e18, h⟩ := tw_bd h
      refine tw_cSi hO (mJ9_floorMod l G e18) cfJ9_floorMod tw_w325 tw_w326 rfl rfl rfl rfl ⟨(Nat.le_of_ble_eq_true rfl), (Nat.le_of_ble_eq_true rfl)⟩ (Nat.le_of_ble_eq_true rfl) ⟨(Nat.le_of_ble_eq_true rfl), (Nat.le_of_ble_eq_true rfl)⟩ dX2_give_18 ?_
      obtain ⟨σ21, e21, h⟩ := tw_bd h
      refine tw_iast hO dX2_give_21 e21 ?_
      exact tw_vret hO dX2_give_22 h
theorem cfX2_placeOfCell : tw_CF yX2_placeOfCell cX2_placeOfCell 1 (some .int) 1 := ⟨tw_w330, tw_w52, by decide +kernel, by decide +kernel, by decide +kernel⟩
set_option maxRecDepth 100000 in
set_option maxHeartbeats 4000000 in
theorem mX2_placeOfCell (l : Launch) (G : tw_G) {σ : tw_St} {x0 : Int32} {q : Int32} (h : fX2_placeOfCell σ x0 = some q) : tw_M l G yX2_placeOfCell cX2_placeOfCell 1 (some .int) rmX2_placeOfCell 0 0 σ [.int x0] (some (.int q)) σ := by
  unfold fX2_placeOfCell at h
  refine tw_M.of (by decide +kernel) (Nat.le_of_ble_eq_true rfl) (fun p e s m args below meth c hnm hO => ?_)
  have hO : tw_O p s m args meth c cX2_placeOfCell RX2 1 (some .int) G := hO
  refine tw_iconst (v := 4) hO dX2_placeOfCell_0 (by decide) ?_
  refine tw_iload_n 0 hO dX2_placeOfCell_1 rfl rfl ?_
  refine tw_bipush (v := 8) hO dX2_placeOfCell_2 (by decide) ?_
  obtain ⟨v4, e4, h⟩ := tw_bd h
  refine tw_cSi hO (mJ9_floorMod l G e4) cfJ9_floorMod tw_w325 tw_w326 rfl rfl rfl rfl ⟨(Nat.le_of_ble_eq_true rfl), (Nat.le_of_ble_eq_true rfl)⟩ (Nat.le_of_ble_eq_true rfl) ⟨(Nat.le_of_ble_eq_true rfl), (Nat.le_of_ble_eq_true rfl)⟩ dX2_placeOfCell_4 ?_
  refine tw_iadd hO dX2_placeOfCell_7 ?_
  exact tw_iretR hO dX2_placeOfCell_8 h
theorem cfX2_stepOver : tw_CF yX2_stepOver cX2_stepOver 7 (some .int) 2 := ⟨tw_w312, tw_w52, by decide +kernel, by decide +kernel, by decide +kernel⟩
theorem kX2_stepOver {σ : tw_St} {a : Nat} {r1 : Nat} {x2 : Int32} {q : Int32 × tw_St} (h : fX2_stepOver σ a r1 x2 = some q) : tw_is σ 2 a = some () := by
  unfold fX2_stepOver at h
  obtain ⟨_, e1, -⟩ := tw_bd h
  exact e1
set_option maxRecDepth 100000 in
set_option maxHeartbeats 4000000 in
theorem wX2_stepOver_b190 (hO : tw_O p s m args meth c cX2_stepOver RX2 7 (some .int) G) {σ : tw_St} {x2 : Int32} {q : Int32 × tw_St} (h : fX2_stepOver_b190 σ x2 = some q) : tw_X p l e rmX2_stepOver s m args below meth c 7 G σ 0 0 (tw_Q below args s G 0 0 (some (.int q.1)) q.2) 190 [(2, .int x2)] [] := by
  unfold fX2_stepOver_b190 at h
  refine tw_iload_n 0 hO dX2_stepOver_190 rfl rfl ?_
  refine tw_iconst (v := 1) hO dX2_stepOver_191 (by decide) ?_
  refine tw_iadd hO dX2_stepOver_192 ?_
  exact tw_iret hO dX2_stepOver_193 h
set_option maxRecDepth 100000 in
set_option maxHeartbeats 4000000 in
theorem mX2_stepOver (l : Launch) (G : tw_G) {σ : tw_St} {a : Nat} {r1 : Nat} {x2 : Int32} {q : Int32 × tw_St} (h : fX2_stepOver σ a r1 x2 = some q) : tw_M l G yX2_stepOver cX2_stepOver 7 (some .int) rmX2_stepOver 0 0 σ [.ref a, .ref r1, .int x2] (some (.int q.1)) q.2 := by
  unfold fX2_stepOver at h
  obtain ⟨_, -, h⟩ := tw_bd h
  refine tw_M.of (by decide +kernel) (Nat.le_of_ble_eq_true rfl) (fun p e s m args below meth c hnm hO => ?_)
  have hO : tw_O p s m args meth c cX2_stepOver RX2 7 (some .int) G := hO
  refine tw_aload_n 1 hO dX2_stepOver_0 rfl rfl ?_
  refine tw_iload_n 2 hO dX2_stepOver_1 rfl rfl ?_
  refine tw_iconst (v := 1) hO dX2_stepOver_2 (by decide) ?_
  obtain ⟨v3, e3, h⟩ := tw_bd h
  refine tw_cVi hO (mX3_told l G e3) cfX3_told (t := 3) rfl (kX3_told e3) tw_w313 tw_w314 tw_w315 rfl rfl rfl rfl ⟨(Nat.le_of_ble_eq_true rfl), (Nat.le_of_ble_eq_true rfl)⟩ (Nat.le_of_ble_eq_true rfl) ⟨(Nat.le_of_ble_eq_true rfl), (Nat.le_of_ble_eq_true rfl)⟩ dX2_stepOver_3 ?_
  refine tw_istore_n (lv' := [(3, .int v3), (0, .ref a), (1, .ref r1), (2, .int x2)]) hO dX2_stepOver_6 rfl (by decide) rfl ?_
  refine tw_aload_n 1 hO dX2_stepOver_7 rfl rfl ?_
  refine tw_aload_n 2 hO dX2_stepOver_8 rfl rfl ?_
  refine tw_iload_n 3 hO dX2_stepOver_9 rfl rfl ?_
  refine tw_iconst (v := 2) hO dX2_stepOver_10 (by decide) ?_
  obtain ⟨v11, e11, h⟩ := tw_bd h
  refine tw_cVi hO (mX3_told l G e11) cfX3_told (t := 3) rfl (kX3_told e11) tw_w313 tw_w314 tw_w315 rfl rfl rfl rfl ⟨(Nat.le_of_ble_eq_true rfl), (Nat.le_of_ble_eq_true rfl)⟩ (Nat.le_of_ble_eq_true rfl) ⟨(Nat.le_of_ble_eq_true rfl), (Nat.le_of_ble_eq_true rfl)⟩ dX2_stepOver_11 ?_
  obtain ⟨v14, e14, h⟩ := tw_bd h
  refine tw_cVi hO (mX2_valueOf l G e14) cfX2_valueOf (t := 2) rfl (kX2_valueOf e14) tw_w317 tw_w319 tw_w1 rfl rfl rfl rfl ⟨(Nat.le_of_ble_eq_true rfl), (Nat.le_of_ble_eq_true rfl)⟩ (Nat.le_of_ble_eq_true rfl) ⟨(Nat.le_of_ble_eq_true rfl), (Nat.le_of_ble_eq_true rfl)⟩ dX2_stepOver_14 ?_
  refine tw_istore (lv' := [(4, .int v14), (3, .int v3), (0, .ref a), (1, .ref r1), (2, .int x2)]) hO dX2_stepOver_17 (by decide) rfl ?_
  refine tw_aload_n 2 hO dX2_stepOver_19 rfl rfl ?_
  refine tw_aload_n 3 hO dX2_stepOver_20 rfl rfl ?_
  refine tw_iload_n 4 hO dX2_stepOver_21 rfl rfl ?_
  refine tw_iconst (v := 3) hO dX2_stepOver_22 (by decide) ?_
  obtain ⟨v23, e23, h⟩ := tw_bd h
  refine tw_cVi hO (mX3_told l G e23) cfX3_told (t := 3) rfl (kX3_told e23) tw_w313 tw_w314 tw_w315 rfl rfl rfl rfl ⟨(Nat.le_of_ble_eq_true rfl), (Nat.le_of_ble_eq_true rfl)⟩ (Nat.le_of_ble_eq_true rfl) ⟨(Nat.le_of_ble_eq_true rfl), (Nat.le_of_ble_eq_true rfl)⟩ dX2_stepOver_23 ?_
  obtain ⟨v26, e26, h⟩ := tw_bd h
  refine tw_cVi hO (mX2_valueOf l G e26) cfX2_valueOf (t := 2) rfl (kX2_valueOf e26) tw_w317 tw_w319 tw_w1 rfl rfl rfl rfl ⟨(Nat.le_of_ble_eq_true rfl), (Nat.le_of_ble_eq_true rfl)⟩ (Nat.le_of_ble_eq_true rfl) ⟨(Nat.le_of_ble_eq_true rfl), (Nat.le_of_ble_eq_true rfl)⟩ dX2_stepOver_26 ?_
  refine tw_istore (lv' := [(5, .int v26), (4, .int v14), (3, .int v3), (0, .ref a), (1, .ref r1), (2, .int x2)]) hO dX2_stepOver_29 (by decide) rfl ?_
  refine tw_aload_n 4 hO dX2_stepOver_31 rfl rfl ?_
  refine tw_iload_n 5 hO dX2_stepOver_32 rfl rfl ?_
  refine tw_iconst (v := 4) hO dX2_stepOver_33 (by decide) ?_
  obtain ⟨v34, e34, h⟩ := tw_bd h
  refine tw_cVi hO (mX3_told l G e34) cfX3_told (t := 3) rfl (kX3_told e34) tw_w313 tw_w314 tw_w315 rfl rfl rfl rfl ⟨(Nat.le_of_ble_eq_true rfl), (Nat.le_of_ble_eq_true rfl)⟩ (Nat.le_of_ble_eq_true rfl) ⟨(Nat.le_of_ble_eq_true rfl), (Nat.le_of_ble_eq_true rfl)⟩ dX2_stepOver_34 ?_
  refine tw_istore (lv' := [(6, .int v34), (5, .int v26), (4, .int v14), (3, .int v3), (0, .ref a), (1, .ref r1), (2, .int x2)]) hO dX2_stepOver_37 (by decide) rfl ?_
  refine tw_aload_n 5 hO dX2_stepOver_39 rfl rfl ?_
  refine tw_iload_n 6 hO dX2_stepOver_40 rfl rfl ?_
  refine tw_iconst (v := 0) hO dX2_stepOver_41 (by decide) ?_
  obtain ⟨v42, e42, h⟩ := tw_bd h
  refine tw_cVi hO (mX3_told l G e42) cfX3_told (t := 3) rfl (kX3_told e42) tw_w313 tw_w314 tw_w315 rfl rfl rfl rfl ⟨(Nat.le_of_ble_eq_true rfl), (Nat.le_of_ble_eq_true rfl)⟩ (Nat.le_of_ble_eq_true rfl) ⟨(Nat.le_of_ble_eq_true rfl), (Nat.le_of_ble_eq_true rfl)⟩ dX2_stepOver_42 ?_
  by_cases s0 : v42 = 0
  · replace h := tw_ifp s0 h
    refine tw_tableIn (off := 43) (tgt := 88) hO dX2_stepOver_45 (by rw [s0]; decide) (by rw [s0]; decide) (by rw [s0]; rfl) (by decide) ?_
    refine tw_aload_n 4 hO dX2_stepOver_88 rfl rfl ?_
    refine tw_iload_n 3 hO dX2_stepOver_89 rfl rfl ?_
    refine tw_iload 0 hO dX2_stepOver_90 rfl ?_
    obtain ⟨σ92, e92, h⟩ := tw_bd h
    refine tw_cVv hO (mX2_give l G e92) cfX2_give (t := 2) rfl (kX2_give e92) tw_w321 tw_w323 tw_w2 rfl rfl rfl rfl ⟨(Nat.le_of_ble_eq_true rfl), (Nat.le_of_ble_eq_true rfl)⟩ (Nat.le_of_ble_eq_true rfl) ⟨(Nat.le_of_ble_eq_true rfl), (Nat.le_of_ble_eq_true rfl)⟩ dX2_stepOver_92 ?_
    refine tw_goto (tgt := 190) hO dX2_stepOver_95 (by decide) ?_
    refine tw_sub [6] rfl ?_
    exact wX2_stepOver_b190 hO h
  replace h := tw_ifn s0 h
  by_cases s1 : v42 = 1
  · replace h := tw_ifp s1 h
    refine tw_tableIn (off := 53) (tgt := 98) hO dX2_stepOver_45 (by rw [s1]; decide) (by rw [s1]; decide) (by rw [s1]; rfl) (by decide) ?_
    refine tw_aload_n 4 hO dX2_stepOver_98 rfl rfl ?_
    refine tw_iload_n 3 hO dX2_stepOver_99 rfl rfl ?_
    refine tw_iload 2 hO dX2_stepOver_100 rfl ?_
    refine tw_iload 1 hO dX2_stepOver_102 rfl ?_
    refine tw_iadd hO dX2_stepOver_104 ?_
    obtain ⟨σ105, e105, h⟩ := tw_bd h
    refine tw_cVv hO (mX2_give l G e105) cfX2_give (t := 2) rfl (kX2_give e105) tw_w321 tw_w323 tw_w2 rfl rfl rfl rfl ⟨(Nat.le_of_ble_eq_true rfl), (Nat.le_of_ble_eq_true rfl)⟩ (Nat.le_of_ble_eq_true rfl) ⟨(Nat.le_of_ble_eq_true rfl), (Nat.le_of_ble_eq_true rfl)⟩ dX2_stepOver_105 ?_
    refine tw_goto (tgt := 190) hO dX2_stepOver_108 (by decide) ?_
    refine tw_sub [6] rfl ?_
    exact wX2_stepOver_b190 hO h
  replace h := tw_ifn s1 h
  by_cases s2 : v42 = 2
  · replace h := tw_ifp s2 h
    refine tw_tableIn (off := 66) (tgt := 111) hO dX2_stepOver_45 (by rw [s2]; decide) (by rw [s2]; decide) (by rw [s2]; rfl) (by decide) ?_
    refine tw_aload_n 4 hO dX2_stepOver_111 rfl rfl ?_
    refine tw_iload_n 3 hO dX2_stepOver_112 rfl rfl ?_
    refine tw_iload 2 hO dX2_stepOver_113 rfl ?_
    refine tw_iload 1 hO dX2_stepOver_115 rfl ?_
    refine tw_isub hO dX2_stepOver_117 ?_
    obtain ⟨σ118, e118, h⟩ := tw_bd h
    refine tw_cVv hO (mX2_give l G e118) cfX2_give (t := 2) rfl (kX2_give e118) tw_w321 tw_w323 tw_w2 rfl rfl rfl rfl ⟨(Nat.le_of_ble_eq_true rfl), (Nat.le_of_ble_eq_true rfl)⟩ (Nat.le_of_ble_eq_true rfl) ⟨(Nat.le_of_ble_eq_true rfl), (Nat.le_of_ble_eq_true rfl)⟩ dX2_stepOver_118 ?_
    refine tw_goto (tgt := 190) hO dX2_stepOver_121 (by decide) ?_
    refine tw_sub [6] rfl ?_
    exact wX2_stepOver_b190 hO h
  replace h := tw_ifn s2 h
  by_cases s3 : v42 = 3
  · replace h := tw_ifp s3 h
    refine tw_tableIn (off := 79) (tgt := 124) hO dX2_stepOver_45 (by rw [s3]; decide) (by rw [s3]; decide) (by rw [s3]; rfl) (by decide) ?_
    refine tw_aload_n 4 hO dX2_stepOver_124 rfl rfl ?_
    refine tw_iload_n 3 hO dX2_stepOver_125 rfl rfl ?_
    refine tw_iload 2 hO dX2_stepOver_126 rfl ?_
    refine tw_iload 1 hO dX2_stepOver_128 rfl ?_
    refine tw_imul hO dX2_stepOver_130 ?_
    obtain ⟨σ131, e131, h⟩ := tw_bd h
    refine tw_cVv hO (mX2_give l G e131) cfX2_give (t := 2) rfl (kX2_give e131) tw_w321 tw_w323 tw_w2 rfl rfl rfl rfl ⟨(Nat.le_of_ble_eq_true rfl), (Nat.le_of_ble_eq_true rfl)⟩ (Nat.le_of_ble_eq_true rfl) ⟨(Nat.le_of_ble_eq_true rfl), (Nat.le_of_ble_eq_true rfl)⟩ dX2_stepOver_131 ?_
    refine tw_goto (tgt := 190) hO dX2_stepOver_134 (by decide) ?_
    refine tw_sub [6] rfl ?_
    exact wX2_stepOver_b190 hO h
  replace h := tw_ifn s3 h
  by_cases s4 : v42 = 4
  · replace h := tw_ifp s4 h
    refine tw_tableIn (off := 92) (tgt := 137) hO dX2_stepOver_45 (by rw [s4]; decide) (by rw [s4]; decide) (by rw [s4]; rfl) (by decide) ?_
    refine tw_aload_n 4 hO dX2_stepOver_137 rfl rfl ?_
    refine tw_iload_n 3 hO dX2_stepOver_138 rfl rfl ?_
    refine tw_aload_n 4 hO dX2_stepOver_139 rfl rfl ?_
    obtain ⟨v140, e140, h⟩ := tw_bd h
    refine tw_getP hO dX2_stepOver_140 (t := 2) rfl 3 (by decide) rfl tw_w129 rfl e140 ?_
    refine tw_iload 2 hO dX2_stepOver_143 rfl ?_
    obtain ⟨v145, e145, h⟩ := tw_bd h
    refine tw_cSi hO (mX2_placeOfCell l G e145) cfX2_placeOfCell tw_w328 tw_w329 rfl rfl rfl rfl ⟨(Nat.le_of_ble_eq_true rfl), (Nat.le_of_ble_eq_true rfl)⟩ (Nat.le_of_ble_eq_true rfl) ⟨(Nat.le_of_ble_eq_true rfl), (Nat.le_of_ble_eq_true rfl)⟩ dX2_stepOver_145 ?_
    obtain ⟨v148, e148, h⟩ := tw_bd h
    refine tw_iald hO dX2_stepOver_148 e148 ?_
    obtain ⟨σ149, e149, h⟩ := tw_bd h
    refine tw_cVv hO (mX2_give l G e149) cfX2_give (t := 2) rfl (kX2_give e149) tw_w321 tw_w323 tw_w2 rfl rfl rfl rfl ⟨(Nat.le_of_ble_eq_true rfl), (Nat.le_of_ble_eq_true rfl)⟩ (Nat.le_of_ble_eq_true rfl) ⟨(Nat.le_of_ble_eq_true rfl), (Nat.le_of_ble_eq_true rfl)⟩ dX2_stepOver_149 ?_
    refine tw_goto (tgt := 190) hO dX2_stepOver_152 (by decide) ?_
    refine tw_sub [6] rfl ?_
    exact wX2_stepOver_b190 hO h
  replace h := tw_ifn s4 h
  by_cases s5 : v42 = 5
  · replace h := tw_ifp s5 h
    refine tw_tableIn (off := 110) (tgt := 155) hO dX2_stepOver_45 (by rw [s5]; decide) (by rw [s5]; decide) (by rw [s5]; rfl) (by decide) ?_
    refine tw_aload_n 4 hO dX2_stepOver_155 rfl rfl ?_
    obtain ⟨v156, e156, h⟩ := tw_bd h
    refine tw_getP hO dX2_stepOver_156 (t := 2) rfl 3 (by decide) rfl tw_w129 rfl e156 ?_
    refine tw_aload_n 4 hO dX2_stepOver_159 rfl rfl ?_
    refine tw_iload_n 3 hO dX2_stepOver_160 rfl rfl ?_
    obtain ⟨v161, e161, h⟩ := tw_bd h
    refine tw_cVi hO (mX2_valueOf l G e161) cfX2_valueOf (t := 2) rfl (kX2_valueOf e161) tw_w317 tw_w319 tw_w1 rfl rfl rfl rfl ⟨(Nat.le_of_ble_eq_true rfl), (Nat.le_of_ble_eq_true rfl)⟩ (Nat.le_of_ble_eq_true rfl) ⟨(Nat.le_of_ble_eq_true rfl), (Nat.le_of_ble_eq_true rfl)⟩ dX2_stepOver_161 ?_
    obtain ⟨v164, e164, h⟩ := tw_bd h
    refine tw_cSi hO (mX2_placeOfCell l G e164) cfX2_placeOfCell tw_w328 tw_w329 rfl rfl rfl rfl ⟨(Nat.le_of_ble_eq_true rfl), (Nat.le_of_ble_eq_true rfl)⟩ (Nat.le_of_ble_eq_true rfl) ⟨(Nat.le_of_ble_eq_true rfl), (Nat.le_of_ble_eq_true rfl)⟩ dX2_stepOver_164 ?_
    refine tw_iload 2 hO dX2_stepOver_167 rfl ?_
    obtain ⟨σ169, e169, h⟩ := tw_bd h
    refine tw_iast hO dX2_stepOver_169 e169 ?_
    refine tw_goto (tgt := 190) hO dX2_stepOver_170 (by decide) ?_
    refine tw_sub [6] rfl ?_
    exact wX2_stepOver_b190 hO h
  replace h := tw_ifn s5 h
  by_cases s6 : v42 = 6
  · replace h := tw_ifp s6 h
    refine tw_tableIn (off := 128) (tgt := 173) hO dX2_stepOver_45 (by rw [s6]; decide) (by rw [s6]; decide) (by rw [s6]; rfl) (by decide) ?_
    refine tw_aload_n 4 hO dX2_stepOver_173 rfl rfl ?_
    refine tw_iload_n 3 hO dX2_stepOver_174 rfl rfl ?_
    obtain ⟨v175, e175, h⟩ := tw_bd h
    refine tw_cVi hO (mX2_valueOf l G e175) cfX2_valueOf (t := 2) rfl (kX2_valueOf e175) tw_w317 tw_w319 tw_w1 rfl rfl rfl rfl ⟨(Nat.le_of_ble_eq_true rfl), (Nat.le_of_ble_eq_true rfl)⟩ (Nat.le_of_ble_eq_true rfl) ⟨(Nat.le_of_ble_eq_true rfl), (Nat.le_of_ble_eq_true rfl)⟩ dX2_stepOver_175 ?_
    refine tw_if_eq (tgt := 186) hO dX2_stepOver_178 (by decide) (fun cc => ?_) (fun cc => ?_)
    · replace h := tw_ifp cc h
      refine tw_iload_n 6 hO dX2_stepOver_186 rfl rfl ?_
      refine tw_iconst (v := 1) hO dX2_stepOver_187 (by decide) ?_
      refine tw_iadd hO dX2_stepOver_188 ?_
      exact tw_iret hO dX2_stepOver_189 h
    · replace h := tw_ifn cc h
      refine tw_iload 0 hO dX2_stepOver_181 rfl ?_
      refine tw_goto (tgt := 189) hO dX2_stepOver_183 (by decide) ?_
      exact tw_iret hO dX2_stepOver_189 h
  replace h := tw_ifn s6 h
  refine tw_tableOut (tgt := 190) hO dX2_stepOver_45 (by have n0 := lv_neT (a := 0) s0 rfl; have n1 := lv_neT (a := 1) s1 rfl; have n2 := lv_neT (a := 2) s2 rfl; have n3 := lv_neT (a := 3) s3 rfl; have n4 := lv_neT (a := 4) s4 rfl; have n5 := lv_neT (a := 5) s5 rfl; have n6 := lv_neT (a := 6) s6 rfl; omega) (by decide) ?_
  refine tw_sub [6] rfl ?_
  exact wX2_stepOver_b190 hO h
theorem cfX2_follow : tw_CF yX2_follow cX2_follow 4 none 2 := ⟨tw_w307, tw_w52, by decide +kernel, by decide +kernel, by decide +kernel⟩
theorem kX2_follow {σ : tw_St} {a : Nat} {r1 : Nat} {r2 : Nat} {q : tw_St} (h : fX2_follow σ a r1 r2 = some q) : tw_is σ 2 a = some () := by
  unfold fX2_follow at h
  obtain ⟨_, e1, -⟩ := tw_bd h
  exact e1
set_option maxRecDepth 100000 in
set_option maxHeartbeats 4000000 in
theorem wX2_follow_b80 (hO : tw_O p s m args meth c cX2_follow RX2 4 none G) {σ : tw_St} {z0 : Int32} {z1 : Nat} {q : tw_St} (h : fX2_follow_b80 σ z0 z1 = some q) : tw_X p l e rmX2_follow s m args below meth c 4 G σ 0 0 (tw_Q below args s G 0 0 none q) 80 [] [.int z0, .ref z1] := by
  unfold fX2_follow_b80 at h
  obtain ⟨_, hz80, h⟩ := tw_bd h
  obtain ⟨σ80, e80, h⟩ := tw_bd h
  refine tw_putI hO dX2_follow_80 (t := 2) rfl 1 (by decide) rfl tw_w124 rfl rfl (tw_bz_sp hz80).2 e80 ?_
  exact tw_vret hO dX2_follow_83 h
set_option maxRecDepth 100000 in
set_option maxHeartbeats 4000000 in
theorem wX2_follow_b66 (hO : tw_O p s m args meth c cX2_follow RX2 4 none G) {σ : tw_St} {a0 : Nat} {a1 : Nat} {x3 : Int32} {q : tw_St} (h : fX2_follow_b66 σ a0 a1 x3 = some q) : tw_X p l e rmX2_follow s m args below meth c 4 G σ 0 0 (tw_Q below args s G 0 0 none q) 66 [(0, .ref a0), (1, .ref a1), (3, .int x3)] [] := by
  unfold fX2_follow_b66 at h
  refine tw_aload_n 0 hO dX2_follow_66 rfl rfl ?_
  refine tw_iload_n 2 hO dX2_follow_67 rfl rfl ?_
  refine tw_aload_n 1 hO dX2_follow_68 rfl rfl ?_
  obtain ⟨v69, e69, h⟩ := tw_bd h
  refine tw_getI hO dX2_follow_69 (t := 3) rfl 0 (by decide) rfl tw_w82 rfl e69 ?_
  refine tw_icmp_ge (tgt := 79) hO dX2_follow_72 (by decide) (fun cc => ?_) (fun cc => ?_)
  · replace h := tw_ifp cc h
    refine tw_iconst (v := 0) hO dX2_follow_79 (by decide) ?_
    refine tw_sub [] rfl ?_
    exact wX2_follow_b80 hO h
  · replace h := tw_ifn cc h
    refine tw_iconst (v := 1) hO dX2_follow_75 (by decide) ?_
    refine tw_goto (tgt := 80) hO dX2_follow_76 (by decide) ?_
    refine tw_sub [] rfl ?_
    exact wX2_follow_b80 hO h
set_option maxRecDepth 100000 in
set_option maxHeartbeats 4000000 in
theorem wX2_follow_h19 (hO : tw_O p s m args meth c cX2_follow RX2 4 none G) {k19 : (tw_St → Nat → Nat → Int32 → Option (tw_St))} (hk19 : ∀ (σ : tw_St) (a0 : Nat) (a1 : Nat) (x3 : Int32) (q : tw_St), k19 σ a0 a1 x3 = some q → tw_X p l e rmX2_follow s m args below meth c 4 G σ 0 0 (tw_Q below args s G 0 0 none q) 19 [(0, .ref a0), (1, .ref a1), (3, .int x3)] []) {σ : tw_St} {a0 : Nat} {a1 : Nat} {x3 : Int32} {q : tw_St} (h : fX2_follow_h19 k19 σ a0 a1 x3 = some q) : tw_X p l e rmX2_follow s m args below meth c 4 G σ 0 0 (tw_Q below args s G 0 0 none q) 19 [(0, .ref a0), (1, .ref a1), (3, .int x3)] [] := by
  unfold fX2_follow_h19 at h
  refine tw_aload_n 0 hO dX2_follow_19 rfl rfl ?_
  obtain ⟨v20, e20, h⟩ := tw_bd h
  refine tw_getI hO dX2_follow_20 (t := 2) rfl 0 (by decide) rfl tw_w122 rfl e20 ?_
  refine tw_bipush (v := 100) hO dX2_follow_23 (by decide) ?_
  refine tw_icmp_ge (tgt := 66) hO dX2_follow_25 (by decide) (fun cc => ?_) (fun cc => ?_)
  · replace h := tw_ifp cc h
    exact wX2_follow_b66 hO h
  · replace h := tw_ifn cc h
    refine tw_iload_n 2 hO dX2_follow_28 rfl rfl ?_
    refine tw_aload_n 1 hO dX2_follow_29 rfl rfl ?_
    obtain ⟨v30, e30, h⟩ := tw_bd h
    refine tw_getI hO dX2_follow_30 (t := 3) rfl 0 (by decide) rfl tw_w82 rfl e30 ?_
    refine tw_icmp_ge (tgt := 66) hO dX2_follow_33 (by decide) (fun cc => ?_) (fun cc => ?_)
    · replace h := tw_ifp cc h
      exact wX2_follow_b66 hO h
    · replace h := tw_ifn cc h
      refine tw_aload_n 0 hO dX2_follow_36 rfl rfl ?_
      obtain ⟨v37, e37, h⟩ := tw_bd h
      refine tw_getP hO dX2_follow_37 (t := 2) rfl 2 (by decide) rfl tw_w126 rfl e37 ?_
      refine tw_aload_n 0 hO dX2_follow_40 rfl rfl ?_
      obtain ⟨v41, e41, h⟩ := tw_bd h
      refine tw_getI hO dX2_follow_41 (t := 2) rfl 0 (by decide) rfl tw_w122 rfl e41 ?_
      refine tw_iload_n 2 hO dX2_follow_44 rfl rfl ?_
      obtain ⟨σ45, e45, h⟩ := tw_bd h
      refine tw_iast hO dX2_follow_45 e45 ?_
      refine tw_aload_n 0 hO dX2_follow_46 rfl rfl ?_
      refine tw_dup hO dX2_follow_47 rfl ?_
      obtain ⟨v48, e48, h⟩ := tw_bd h
      refine tw_getI hO dX2_follow_48 (t := 2) rfl 0 (by decide) rfl tw_w122 rfl e48 ?_
      refine tw_iconst (v := 1) hO dX2_follow_51 (by decide) ?_
      refine tw_iadd hO dX2_follow_52 ?_
      obtain ⟨σ53, e53, h⟩ := tw_bd h
      refine tw_putI hO dX2_follow_53 (t := 2) rfl 0 (by decide) rfl tw_w122 rfl rfl ⟨rfl, rfl⟩ e53 ?_
      refine tw_aload_n 0 hO dX2_follow_56 rfl rfl ?_
      refine tw_aload_n 1 hO dX2_follow_57 rfl rfl ?_
      refine tw_iload_n 2 hO dX2_follow_58 rfl rfl ?_
      obtain ⟨q59, e59, h⟩ := tw_bd h
      refine tw_cVi hO (mX2_stepOver l G e59) cfX2_stepOver (t := 2) rfl (kX2_stepOver e59) tw_w309 tw_w311 tw_w0 rfl rfl rfl rfl ⟨(Nat.le_of_ble_eq_true rfl), (Nat.le_of_ble_eq_true rfl)⟩ (Nat.le_of_ble_eq_true rfl) ⟨(Nat.le_of_ble_eq_true rfl), (Nat.le_of_ble_eq_true rfl)⟩ dX2_follow_59 ?_
      refine tw_istore_n (lv' := [(3, .int q59.1), (0, .ref a0), (1, .ref a1)]) hO dX2_follow_62 rfl (by decide) rfl ?_
      refine tw_goto (tgt := 19) hO dX2_follow_63 (by decide) ?_
      refine tw_sub [1, 2, 0] rfl ?_
      exact hk19 _ _ _ _ _ h
set_option maxRecDepth 100000 in
set_option maxHeartbeats 4000000 in
theorem wX2_follow_l19 (hO : tw_O p s m args meth c cX2_follow RX2 4 none G) : ∀ (n : Nat) (σ : tw_St) (a0 : Nat) (a1 : Nat) (x3 : Int32) (q : tw_St), fX2_follow_l19 n σ a0 a1 x3 = some q → tw_X p l e rmX2_follow s m args below meth c 4 G σ 0 0 (tw_Q below args s G 0 0 none q) 19 [(0, .ref a0), (1, .ref a1), (3, .int x3)] [] := by
  intro n
  induction n with
  | zero => intro _ _ _ _ q h; cases (show (none : Option (tw_St)) = some q from h)
  | succ n ih => intro _ _ _ _ q h; exact wX2_follow_h19 hO ih h
set_option maxRecDepth 100000 in
set_option maxHeartbeats 4000000 in
theorem mX2_follow (l : Launch) (G : tw_G) {σ : tw_St} {a : Nat} {r1 : Nat} {r2 : Nat} {q : tw_St} (h : fX2_follow σ a r1 r2 = some q) : tw_M l G yX2_follow cX2_follow 4 none rmX2_follow 0 0 σ [.ref a, .ref r1, .ref r2] none q := by
  unfold fX2_follow at h
  obtain ⟨_, -, h⟩ := tw_bd h
  refine tw_M.of (by decide +kernel) (Nat.le_of_ble_eq_true rfl) (fun p e s m args below meth c hnm hO => ?_)
  have hO : tw_O p s m args meth c cX2_follow RX2 4 none G := hO
  refine tw_aload_n 2 hO dX2_follow_0 rfl rfl ?_
  refine tw_iconst (v := 0) hO dX2_follow_1 (by decide) ?_
  refine tw_aload_n 0 hO dX2_follow_2 rfl rfl ?_
  obtain ⟨v3, e3, h⟩ := tw_bd h
  refine tw_getP hO dX2_follow_3 (t := 2) rfl 3 (by decide) rfl tw_w129 rfl e3 ?_
  refine tw_iconst (v := 0) hO dX2_follow_6 (by decide) ?_
  refine tw_bipush (v := 12) hO dX2_follow_7 (by decide) ?_
  obtain ⟨σ9, e9, h⟩ := tw_bd h
  refine tw_copy hO dX2_follow_9 tw_w308 tw_w290 tw_w289 tw_w57 (Nat.le_of_ble_eq_true rfl) (Nat.le_of_ble_eq_true rfl) e9 ?_
  refine tw_aload_n 0 hO dX2_follow_12 rfl rfl ?_
  refine tw_iconst (v := 0) hO dX2_follow_13 (by decide) ?_
  obtain ⟨σ14, e14, h⟩ := tw_bd h
  refine tw_putI hO dX2_follow_14 (t := 2) rfl 0 (by decide) rfl tw_w122 rfl rfl ⟨rfl, rfl⟩ e14 ?_
  refine tw_iconst (v := 0) hO dX2_follow_17 (by decide) ?_
  refine tw_istore_n (lv' := [(3, .int 0), (0, .ref a), (1, .ref r1), (2, .ref r2)]) hO dX2_follow_18 rfl (by decide) rfl ?_
  refine tw_sub [1, 2, 0] rfl ?_
  exact wX2_follow_l19 hO _ _ _ _ _ _ h
theorem cfX4_take : tw_CF yX4_take cX4_take 2 (some .boolean) 1 := ⟨tw_w418, tw_w54, by decide +kernel, by decide +kernel, by decide +kernel⟩
theorem kX4_take {σ : tw_St} {a : Nat} {x1 : Int32} {q : Int32 × tw_St} (h : fX4_take σ a x1 = some q) : tw_is σ 4 a = some () := by
  unfold fX4_take at h
  obtain ⟨_, e1, -⟩ := tw_bd h
  exact e1
set_option maxRecDepth 100000 in
set_option maxHeartbeats 4000000 in
theorem mX4_take (l : Launch) (G : tw_G) {σ : tw_St} {a : Nat} {x1 : Int32} {q : Int32 × tw_St} (h : fX4_take σ a x1 = some q) : tw_M l G yX4_take cX4_take 2 (some .boolean) rmX4_take 0 0 σ [.ref a, .int x1] (some (.int q.1)) q.2 := by
  unfold fX4_take at h
  obtain ⟨_, -, h⟩ := tw_bd h
  refine tw_M.of (by decide +kernel) (Nat.le_of_ble_eq_true rfl) (fun p e s m args below meth c hnm hO => ?_)
  have hO : tw_O p s m args meth c cX4_take RX4 2 (some .boolean) G := hO
  refine tw_aload_n 0 hO dX4_take_0 rfl rfl ?_
  obtain ⟨v1, e1, h⟩ := tw_bd h
  refine tw_getP hO dX4_take_1 (t := 4) rfl 2 (by decide) rfl tw_w212 rfl e1 ?_
  refine tw_aload_n 0 hO dX4_take_4 rfl rfl ?_
  obtain ⟨v5, e5, h⟩ := tw_bd h
  refine tw_getI hO dX4_take_5 (t := 4) rfl 3 (by decide) rfl tw_w213 rfl e5 ?_
  obtain ⟨v8, e8, h⟩ := tw_bd h
  refine tw_cVi hO (mX1_charAt l G e8) cfX1_charAt (t := 1) rfl (kX1_charAt e8) tw_w419 tw_w420 tw_w421 rfl rfl rfl rfl ⟨(Nat.le_of_ble_eq_true rfl), (Nat.le_of_ble_eq_true rfl)⟩ (Nat.le_of_ble_eq_true rfl) ⟨(Nat.le_of_ble_eq_true rfl), (Nat.le_of_ble_eq_true rfl)⟩ dX4_take_8 ?_
  refine tw_iload_n 1 hO dX4_take_11 rfl rfl ?_
  refine tw_icmp_eq (tgt := 17) hO dX4_take_12 (by decide) (fun cc => ?_) (fun cc => ?_)
  · replace h := tw_ifp cc h
    refine tw_aload_n 0 hO dX4_take_17 rfl rfl ?_
    refine tw_dup hO dX4_take_18 rfl ?_
    obtain ⟨v19, e19, h⟩ := tw_bd h
    refine tw_getI hO dX4_take_19 (t := 4) rfl 3 (by decide) rfl tw_w213 rfl e19 ?_
    refine tw_iconst (v := 1) hO dX4_take_22 (by decide) ?_
    refine tw_iadd hO dX4_take_23 ?_
    obtain ⟨σ24, e24, h⟩ := tw_bd h
    refine tw_putI hO dX4_take_24 (t := 4) rfl 3 (by decide) rfl tw_w213 rfl rfl ⟨rfl, rfl⟩ e24 ?_
    refine tw_iconst (v := 1) hO dX4_take_27 (by decide) ?_
    exact tw_zret hO rfl dX4_take_28 h
  · replace h := tw_ifn cc h
    refine tw_iconst (v := 0) hO dX4_take_15 (by decide) ?_
    exact tw_zret hO rfl dX4_take_16 h
theorem cfX4_takeFrom : tw_CF yX4_takeFrom cX4_takeFrom 4 (some .int) 2 := ⟨tw_w434, tw_w54, by decide +kernel, by decide +kernel, by decide +kernel⟩
theorem kX4_takeFrom {σ : tw_St} {a : Nat} {x1 : Int32} {x2 : Int32} {q : Int32 × tw_St} (h : fX4_takeFrom σ a x1 x2 = some q) : tw_is σ 4 a = some () := by
  unfold fX4_takeFrom at h
  obtain ⟨_, e1, -⟩ := tw_bd h
  exact e1
set_option maxRecDepth 100000 in
set_option maxHeartbeats 4000000 in
theorem mX4_takeFrom (l : Launch) (G : tw_G) {σ : tw_St} {a : Nat} {x1 : Int32} {x2 : Int32} {q : Int32 × tw_St} (h : fX4_takeFrom σ a x1 x2 = some q) : tw_M l G yX4_takeFrom cX4_takeFrom 4 (some .int) rmX4_takeFrom 0 0 σ [.ref a, .int x1, .int x2] (some (.int q.1)) q.2 := by
  unfold fX4_takeFrom at h
  obtain ⟨_, -, h⟩ := tw_bd h
  refine tw_M.of (by decide +kernel) (Nat.le_of_ble_eq_true rfl) (fun p e s m args below meth c hnm hO => ?_)
  have hO : tw_O p s m args meth c cX4_takeFrom RX4 4 (some .int) G := hO
  refine tw_aload_n 0 hO dX4_takeFrom_0 rfl rfl ?_
  obtain ⟨v1, e1, h⟩ := tw_bd h
  refine tw_getP hO dX4_takeFrom_1 (t := 4) rfl 2 (by decide) rfl tw_w212 rfl e1 ?_
  refine tw_aload_n 0 hO dX4_takeFrom_4 rfl rfl ?_
  obtain ⟨v5, e5, h⟩ := tw_bd h
  refine tw_getI hO dX4_takeFrom_5 (t := 4) rfl 3 (by decide) rfl tw_w213 rfl e5 ?_
  obtain ⟨v8, e8, h⟩ := tw_bd h
  refine tw_cVi hO (mX1_charAt l G e8) cfX1_charAt (t := 1) rfl (kX1_charAt e8) tw_w419 tw_w420 tw_w421 rfl rfl rfl rfl ⟨(Nat.le_of_ble_eq_true rfl), (Nat.le_of_ble_eq_true rfl)⟩ (Nat.le_of_ble_eq_true rfl) ⟨(Nat.le_of_ble_eq_true rfl), (Nat.le_of_ble_eq_true rfl)⟩ dX4_takeFrom_8 ?_
  refine tw_iload_n 1 hO dX4_takeFrom_11 rfl rfl ?_
  refine tw_isub hO dX4_takeFrom_12 ?_
  refine tw_istore_n (lv' := [(3, .int (v8 - x1)), (0, .ref a), (1, .int x1), (2, .int x2)]) hO dX4_takeFrom_13 rfl (by decide) rfl ?_
  refine tw_iload_n 0 hO dX4_takeFrom_14 rfl rfl ?_
  refine tw_if_lt (tgt := 23) hO dX4_takeFrom_15 (by decide) (fun cc => ?_) (fun cc => ?_)
  · replace h := tw_ifp cc h
    refine tw_bipush (v := (-6)) hO dX4_takeFrom_23 (by decide) ?_
    exact tw_iret hO dX4_takeFrom_25 h
  · replace h := tw_ifn cc h
    refine tw_iload_n 0 hO dX4_takeFrom_18 rfl rfl ?_
    refine tw_iload_n 3 hO dX4_takeFrom_19 rfl rfl ?_
    refine tw_icmp_lt (tgt := 26) hO dX4_takeFrom_20 (by decide) (fun cc => ?_) (fun cc => ?_)
    · replace h := tw_ifp cc h
      refine tw_aload_n 1 hO dX4_takeFrom_26 rfl rfl ?_
      refine tw_dup hO dX4_takeFrom_27 rfl ?_
      obtain ⟨v28, e28, h⟩ := tw_bd h
      refine tw_getI hO dX4_takeFrom_28 (t := 4) rfl 3 (by decide) rfl tw_w213 rfl e28 ?_
      refine tw_iconst (v := 1) hO dX4_takeFrom_31 (by decide) ?_
      refine tw_iadd hO dX4_takeFrom_32 ?_
      obtain ⟨σ33, e33, h⟩ := tw_bd h
      refine tw_putI hO dX4_takeFrom_33 (t := 4) rfl 3 (by decide) rfl tw_w213 rfl rfl ⟨rfl, rfl⟩ e33 ?_
      refine tw_iload_n 0 hO dX4_takeFrom_36 rfl rfl ?_
      exact tw_iret hO dX4_takeFrom_37 h
    · replace h := tw_ifn cc h
      refine tw_bipush (v := (-6)) hO dX4_takeFrom_23 (by decide) ?_
      exact tw_iret hO dX4_takeFrom_25 h
theorem cfX4_takeRegister : tw_CF yX4_takeRegister cX4_takeRegister 1 (some .int) 0 := ⟨tw_w430, tw_w54, by decide +kernel, by decide +kernel, by decide +kernel⟩
theorem kX4_takeRegister {σ : tw_St} {a : Nat} {q : Int32 × tw_St} (h : fX4_takeRegister σ a = some q) : tw_is σ 4 a = some () := by
  unfold fX4_takeRegister at h
  obtain ⟨_, e1, -⟩ := tw_bd h
  exact e1
set_option maxRecDepth 100000 in
set_option maxHeartbeats 4000000 in
theorem mX4_takeRegister (l : Launch) (G : tw_G) {σ : tw_St} {a : Nat} {q : Int32 × tw_St} (h : fX4_takeRegister σ a = some q) : tw_M l G yX4_takeRegister cX4_takeRegister 1 (some .int) rmX4_takeRegister 0 0 σ [.ref a] (some (.int q.1)) q.2 := by
  unfold fX4_takeRegister at h
  obtain ⟨_, -, h⟩ := tw_bd h
  refine tw_M.of (by decide +kernel) (Nat.le_of_ble_eq_true rfl) (fun p e s m args below meth c hnm hO => ?_)
  have hO : tw_O p s m args meth c cX4_takeRegister RX4 1 (some .int) G := hO
  refine tw_aload_n 0 hO dX4_takeRegister_0 rfl rfl ?_
  refine tw_bipush (v := 97) hO dX4_takeRegister_1 (by decide) ?_
  refine tw_iconst (v := 4) hO dX4_takeRegister_3 (by decide) ?_
  obtain ⟨q4, e4, h⟩ := tw_bd h
  refine tw_cVi hO (mX4_takeFrom l G e4) cfX4_takeFrom (t := 4) rfl (kX4_takeFrom e4) tw_w431 tw_w433 tw_w14 rfl rfl rfl rfl ⟨(Nat.le_of_ble_eq_true rfl), (Nat.le_of_ble_eq_true rfl)⟩ (Nat.le_of_ble_eq_true rfl) ⟨(Nat.le_of_ble_eq_true rfl), (Nat.le_of_ble_eq_true rfl)⟩ dX4_takeRegister_4 ?_
  exact tw_iret hO dX4_takeRegister_7 h
theorem cfX4_readStore : tw_CF yX4_readStore cX4_readStore 3 (some .boolean) 0 := ⟨tw_w426, tw_w54, by decide +kernel, by decide +kernel, by decide +kernel⟩
theorem kX4_readStore {σ : tw_St} {a : Nat} {q : Int32 × tw_St} (h : fX4_readStore σ a = some q) : tw_is σ 4 a = some () := by
  unfold fX4_readStore at h
  obtain ⟨_, e1, -⟩ := tw_bd h
  exact e1
set_option maxRecDepth 100000 in
set_option maxHeartbeats 4000000 in
theorem mX4_readStore (l : Launch) (G : tw_G) {σ : tw_St} {a : Nat} {q : Int32 × tw_St} (h : fX4_readStore σ a = some q) : tw_M l G yX4_readStore cX4_readStore 3 (some .boolean) rmX4_readStore 0 0 σ [.ref a] (some (.int q.1)) q.2 := by
  unfold fX4_readStore at h
  obtain ⟨_, -, h⟩ := tw_bd h
  refine tw_M.of (by decide +kernel) (Nat.le_of_ble_eq_true rfl) (fun p e s m args below meth c hnm hO => ?_)
  have hO : tw_O p s m args meth c cX4_readStore RX4 3 (some .boolean) G := hO
  refine tw_aload_n 0 hO dX4_readStore_0 rfl rfl ?_
  obtain ⟨q1, e1, h⟩ := tw_bd h
  refine tw_cVi hO (mX4_takeRegister l G e1) cfX4_takeRegister (t := 4) rfl (kX4_takeRegister e1) tw_w427 tw_w429 tw_w13 rfl rfl rfl rfl ⟨(Nat.le_of_ble_eq_true rfl), (Nat.le_of_ble_eq_true rfl)⟩ (Nat.le_of_ble_eq_true rfl) ⟨(Nat.le_of_ble_eq_true rfl), (Nat.le_of_ble_eq_true rfl)⟩ dX4_readStore_1 ?_
  refine tw_istore_n (lv' := [(1, .int q1.1), (0, .ref a)]) hO dX4_readStore_4 rfl (by decide) rfl ?_
  refine tw_iload_n 0 hO dX4_readStore_5 rfl rfl ?_
  refine tw_bipush (v := (-6)) hO dX4_readStore_6 (by decide) ?_
  refine tw_icmp_eq (tgt := 29) hO dX4_readStore_8 (by decide) (fun cc => ?_) (fun cc => ?_)
  · replace h := tw_ifp cc h
    refine tw_iconst (v := 0) hO dX4_readStore_29 (by decide) ?_
    exact tw_zret hO rfl dX4_readStore_30 h
  · replace h := tw_ifn cc h
    refine tw_aload_n 1 hO dX4_readStore_11 rfl rfl ?_
    refine tw_bipush (v := 93) hO dX4_readStore_12 (by decide) ?_
    obtain ⟨q14, e14, h⟩ := tw_bd h
    refine tw_cVi hO (mX4_take l G e14) cfX4_take (t := 4) rfl (kX4_take e14) tw_w415 tw_w417 tw_w11 rfl rfl rfl rfl ⟨(Nat.le_of_ble_eq_true rfl), (Nat.le_of_ble_eq_true rfl)⟩ (Nat.le_of_ble_eq_true rfl) ⟨(Nat.le_of_ble_eq_true rfl), (Nat.le_of_ble_eq_true rfl)⟩ dX4_readStore_14 ?_
    refine tw_if_eq (tgt := 29) hO dX4_readStore_17 (by decide) (fun cc => ?_) (fun cc => ?_)
    · replace h := tw_ifp cc h
      refine tw_iconst (v := 0) hO dX4_readStore_29 (by decide) ?_
      exact tw_zret hO rfl dX4_readStore_30 h
    · replace h := tw_ifn cc h
      refine tw_aload_n 1 hO dX4_readStore_20 rfl rfl ?_
      refine tw_bipush (v := 61) hO dX4_readStore_21 (by decide) ?_
      obtain ⟨q23, e23, h⟩ := tw_bd h
      refine tw_cVi hO (mX4_take l G e23) cfX4_take (t := 4) rfl (kX4_take e23) tw_w415 tw_w417 tw_w11 rfl rfl rfl rfl ⟨(Nat.le_of_ble_eq_true rfl), (Nat.le_of_ble_eq_true rfl)⟩ (Nat.le_of_ble_eq_true rfl) ⟨(Nat.le_of_ble_eq_true rfl), (Nat.le_of_ble_eq_true rfl)⟩ dX4_readStore_23 ?_
      refine tw_if_ne (tgt := 31) hO dX4_readStore_26 (by decide) (fun cc => ?_) (fun cc => ?_)
      · replace h := tw_ifn cc h
        refine tw_aload_n 1 hO dX4_readStore_31 rfl rfl ?_
        obtain ⟨q32, e32, h⟩ := tw_bd h
        refine tw_cVi hO (mX4_takeRegister l G e32) cfX4_takeRegister (t := 4) rfl (kX4_takeRegister e32) tw_w427 tw_w429 tw_w13 rfl rfl rfl rfl ⟨(Nat.le_of_ble_eq_true rfl), (Nat.le_of_ble_eq_true rfl)⟩ (Nat.le_of_ble_eq_true rfl) ⟨(Nat.le_of_ble_eq_true rfl), (Nat.le_of_ble_eq_true rfl)⟩ dX4_readStore_32 ?_
        refine tw_istore_n (lv' := [(2, .int q32.1), (1, .int q1.1), (0, .ref a)]) hO dX4_readStore_35 rfl (by decide) rfl ?_
        refine tw_iload_n 0 hO dX4_readStore_36 rfl rfl ?_
        refine tw_bipush (v := (-6)) hO dX4_readStore_37 (by decide) ?_
        refine tw_icmp_ne (tgt := 44) hO dX4_readStore_39 (by decide) (fun cc => ?_) (fun cc => ?_)
        · replace h := tw_ifn cc h
          refine tw_aload_n 2 hO dX4_readStore_44 rfl rfl ?_
          obtain ⟨v45, e45, h⟩ := tw_bd h
          refine tw_getP hO dX4_readStore_45 (t := 4) rfl 0 (by decide) rfl tw_w208 rfl e45 ?_
          refine tw_iconst (v := 5) hO dX4_readStore_48 (by decide) ?_
          refine tw_iload_n 1 hO dX4_readStore_49 rfl rfl ?_
          refine tw_iload_n 0 hO dX4_readStore_50 rfl rfl ?_
          refine tw_bipush (v := (-6)) hO dX4_readStore_51 (by decide) ?_
          refine tw_bipush (v := (-6)) hO dX4_readStore_53 (by decide) ?_
          obtain ⟨σ55, e55, h⟩ := tw_bd h
          refine tw_cVv hO (mX3_add l G e55) cfX3_add (t := 3) rfl (kX3_add e55) tw_w435 tw_w436 tw_w437 rfl rfl rfl rfl ⟨(Nat.le_of_ble_eq_true rfl), (Nat.le_of_ble_eq_true rfl)⟩ (Nat.le_of_ble_eq_true rfl) ⟨(Nat.le_of_ble_eq_true rfl), (Nat.le_of_ble_eq_true rfl)⟩ dX4_readStore_55 ?_
          refine tw_iconst (v := 1) hO dX4_readStore_58 (by decide) ?_
          exact tw_zret hO rfl dX4_readStore_59 h
        · replace h := tw_ifp cc h
          refine tw_iconst (v := 0) hO dX4_readStore_42 (by decide) ?_
          exact tw_zret hO rfl dX4_readStore_43 h
      · replace h := tw_ifp cc h
        refine tw_iconst (v := 0) hO dX4_readStore_29 (by decide) ?_
        exact tw_zret hO rfl dX4_readStore_30 h
theorem cfX4_readNumber : tw_CF yX4_readNumber cX4_readNumber 5 (some .boolean) 2 := ⟨tw_w442, tw_w54, by decide +kernel, by decide +kernel, by decide +kernel⟩
theorem kX4_readNumber {σ : tw_St} {a : Nat} {x1 : Int32} {x2 : Int32} {q : Int32 × tw_St} (h : fX4_readNumber σ a x1 x2 = some q) : tw_is σ 4 a = some () := by
  unfold fX4_readNumber at h
  obtain ⟨_, e1, -⟩ := tw_bd h
  exact e1
set_option maxRecDepth 100000 in
set_option maxHeartbeats 4000000 in
theorem wX4_readNumber_b50 (hO : tw_O p s m args meth c cX4_readNumber RX4 5 (some .boolean) G) {σ : tw_St} {a0 : Nat} {x1 : Int32} {x2 : Int32} {x3 : Int32} {q : Int32 × tw_St} (h : fX4_readNumber_b50 σ a0 x1 x2 x3 = some q) : tw_X p l e rmX4_readNumber s m args below meth c 5 G σ 0 0 (tw_Q below args s G 0 0 (some (.int q.1)) q.2) 50 [(0, .ref a0), (1, .int x1), (2, .int x2), (3, .int x3)] [] := by
  unfold fX4_readNumber_b50 at h
  refine tw_aload_n 0 hO dX4_readNumber_50 rfl rfl ?_
  obtain ⟨v51, e51, h⟩ := tw_bd h
  refine tw_getP hO dX4_readNumber_51 (t := 4) rfl 0 (by decide) rfl tw_w208 rfl e51 ?_
  refine tw_iload_n 1 hO dX4_readNumber_54 rfl rfl ?_
  refine tw_iload_n 2 hO dX4_readNumber_55 rfl rfl ?_
  refine tw_bipush (v := (-6)) hO dX4_readNumber_56 (by decide) ?_
  refine tw_bipush (v := (-6)) hO dX4_readNumber_58 (by decide) ?_
  refine tw_iload_n 3 hO dX4_readNumber_60 rfl rfl ?_
  obtain ⟨σ61, e61, h⟩ := tw_bd h
  refine tw_cVv hO (mX3_add l G e61) cfX3_add (t := 3) rfl (kX3_add e61) tw_w435 tw_w436 tw_w437 rfl rfl rfl rfl ⟨(Nat.le_of_ble_eq_true rfl), (Nat.le_of_ble_eq_true rfl)⟩ (Nat.le_of_ble_eq_true rfl) ⟨(Nat.le_of_ble_eq_true rfl), (Nat.le_of_ble_eq_true rfl)⟩ dX4_readNumber_61 ?_
  refine tw_iconst (v := 1) hO dX4_readNumber_64 (by decide) ?_
  exact tw_zret hO rfl dX4_readNumber_65 h
set_option maxRecDepth 100000 in
set_option maxHeartbeats 4000000 in
theorem wX4_readNumber_b49 (hO : tw_O p s m args meth c cX4_readNumber RX4 5 (some .boolean) G) {σ : tw_St} {a0 : Nat} {x1 : Int32} {x2 : Int32} {z0 : Int32} {q : Int32 × tw_St} (h : fX4_readNumber_b49 σ a0 x1 x2 z0 = some q) : tw_X p l e rmX4_readNumber s m args below meth c 5 G σ 0 0 (tw_Q below args s G 0 0 (some (.int q.1)) q.2) 49 [(0, .ref a0), (1, .int x1), (2, .int x2)] [.int z0] := by
  unfold fX4_readNumber_b49 at h
  refine tw_istore_n (lv' := [(3, .int z0), (0, .ref a0), (1, .int x1), (2, .int x2)]) hO dX4_readNumber_49 rfl (by decide) rfl ?_
  refine tw_sub [1, 2, 3, 0] rfl ?_
  exact wX4_readNumber_b50 hO h
set_option maxRecDepth 100000 in
set_option maxHeartbeats 4000000 in
theorem mX4_readNumber (l : Launch) (G : tw_G) {σ : tw_St} {a : Nat} {x1 : Int32} {x2 : Int32} {q : Int32 × tw_St} (h : fX4_readNumber σ a x1 x2 = some q) : tw_M l G yX4_readNumber cX4_readNumber 5 (some .boolean) rmX4_readNumber 0 0 σ [.ref a, .int x1, .int x2] (some (.int q.1)) q.2 := by
  unfold fX4_readNumber at h
  obtain ⟨_, -, h⟩ := tw_bd h
  refine tw_M.of (by decide +kernel) (Nat.le_of_ble_eq_true rfl) (fun p e s m args below meth c hnm hO => ?_)
  have hO : tw_O p s m args meth c cX4_readNumber RX4 5 (some .boolean) G := hO
  refine tw_aload_n 0 hO dX4_readNumber_0 rfl rfl ?_
  refine tw_bipush (v := 48) hO dX4_readNumber_1 (by decide) ?_
  refine tw_bipush (v := 10) hO dX4_readNumber_3 (by decide) ?_
  obtain ⟨q5, e5, h⟩ := tw_bd h
  refine tw_cVi hO (mX4_takeFrom l G e5) cfX4_takeFrom (t := 4) rfl (kX4_takeFrom e5) tw_w431 tw_w433 tw_w14 rfl rfl rfl rfl ⟨(Nat.le_of_ble_eq_true rfl), (Nat.le_of_ble_eq_true rfl)⟩ (Nat.le_of_ble_eq_true rfl) ⟨(Nat.le_of_ble_eq_true rfl), (Nat.le_of_ble_eq_true rfl)⟩ dX4_readNumber_5 ?_
  refine tw_istore_n (lv' := [(3, .int q5.1), (0, .ref a), (1, .int x1), (2, .int x2)]) hO dX4_readNumber_8 rfl (by decide) rfl ?_
  refine tw_iload_n 0 hO dX4_readNumber_9 rfl rfl ?_
  refine tw_bipush (v := (-6)) hO dX4_readNumber_10 (by decide) ?_
  refine tw_icmp_ne (tgt := 17) hO dX4_readNumber_12 (by decide) (fun cc => ?_) (fun cc => ?_)
  · replace h := tw_ifn cc h
    refine tw_iload_n 0 hO dX4_readNumber_17 rfl rfl ?_
    refine tw_if_le (tgt := 50) hO dX4_readNumber_18 (by decide) (fun cc => ?_) (fun cc => ?_)
    · replace h := tw_ifp cc h
      refine tw_sub [1, 2, 3, 0] rfl ?_
      exact wX4_readNumber_b50 hO h
    · replace h := tw_ifn cc h
      refine tw_aload_n 1 hO dX4_readNumber_21 rfl rfl ?_
      refine tw_bipush (v := 48) hO dX4_readNumber_22 (by decide) ?_
      refine tw_bipush (v := 10) hO dX4_readNumber_24 (by decide) ?_
      obtain ⟨q26, e26, h⟩ := tw_bd h
      refine tw_cVi hO (mX4_takeFrom l G e26) cfX4_takeFrom (t := 4) rfl (kX4_takeFrom e26) tw_w431 tw_w433 tw_w14 rfl rfl rfl rfl ⟨(Nat.le_of_ble_eq_true rfl), (Nat.le_of_ble_eq_true rfl)⟩ (Nat.le_of_ble_eq_true rfl) ⟨(Nat.le_of_ble_eq_true rfl), (Nat.le_of_ble_eq_true rfl)⟩ dX4_readNumber_26 ?_
      refine tw_istore (lv' := [(4, .int q26.1), (3, .int q5.1), (0, .ref a), (1, .int x1), (2, .int x2)]) hO dX4_readNumber_29 (by decide) rfl ?_
      refine tw_iload 0 hO dX4_readNumber_31 rfl ?_
      refine tw_bipush (v := (-6)) hO dX4_readNumber_33 (by decide) ?_
      refine tw_icmp_ne (tgt := 42) hO dX4_readNumber_35 (by decide) (fun cc => ?_) (fun cc => ?_)
      · replace h := tw_ifn cc h
        refine tw_iload_n 1 hO dX4_readNumber_42 rfl rfl ?_
        refine tw_bipush (v := 10) hO dX4_readNumber_43 (by decide) ?_
        refine tw_imul hO dX4_readNumber_45 ?_
        refine tw_iload 0 hO dX4_readNumber_46 rfl ?_
        refine tw_iadd hO dX4_readNumber_48 ?_
        refine tw_sub [2, 3, 4] rfl ?_
        exact wX4_readNumber_b49 hO h
      · replace h := tw_ifp cc h
        refine tw_iload_n 1 hO dX4_readNumber_38 rfl rfl ?_
        refine tw_goto (tgt := 49) hO dX4_readNumber_39 (by decide) ?_
        refine tw_sub [2, 3, 4] rfl ?_
        exact wX4_readNumber_b49 hO h
  · replace h := tw_ifp cc h
    refine tw_iconst (v := 0) hO dX4_readNumber_15 (by decide) ?_
    exact tw_zret hO rfl dX4_readNumber_16 h
theorem cfX4_readLoad : tw_CF yX4_readLoad cX4_readLoad 3 (some .boolean) 1 := ⟨tw_w450, tw_w54, by decide +kernel, by decide +kernel, by decide +kernel⟩
theorem kX4_readLoad {σ : tw_St} {a : Nat} {x1 : Int32} {q : Int32 × tw_St} (h : fX4_readLoad σ a x1 = some q) : tw_is σ 4 a = some () := by
  unfold fX4_readLoad at h
  obtain ⟨_, e1, -⟩ := tw_bd h
  exact e1
set_option maxRecDepth 100000 in
set_option maxHeartbeats 4000000 in
theorem mX4_readLoad (l : Launch) (G : tw_G) {σ : tw_St} {a : Nat} {x1 : Int32} {q : Int32 × tw_St} (h : fX4_readLoad σ a x1 = some q) : tw_M l G yX4_readLoad cX4_readLoad 3 (some .boolean) rmX4_readLoad 0 0 σ [.ref a, .int x1] (some (.int q.1)) q.2 := by
  unfold fX4_readLoad at h
  obtain ⟨_, -, h⟩ := tw_bd h
  refine tw_M.of (by decide +kernel) (Nat.le_of_ble_eq_true rfl) (fun p e s m args below meth c hnm hO => ?_)
  have hO : tw_O p s m args meth c cX4_readLoad RX4 3 (some .boolean) G := hO
  refine tw_aload_n 0 hO dX4_readLoad_0 rfl rfl ?_
  obtain ⟨q1, e1, h⟩ := tw_bd h
  refine tw_cVi hO (mX4_takeRegister l G e1) cfX4_takeRegister (t := 4) rfl (kX4_takeRegister e1) tw_w427 tw_w429 tw_w13 rfl rfl rfl rfl ⟨(Nat.le_of_ble_eq_true rfl), (Nat.le_of_ble_eq_true rfl)⟩ (Nat.le_of_ble_eq_true rfl) ⟨(Nat.le_of_ble_eq_true rfl), (Nat.le_of_ble_eq_true rfl)⟩ dX4_readLoad_1 ?_
  refine tw_istore_n (lv' := [(2, .int q1.1), (0, .ref a), (1, .int x1)]) hO dX4_readLoad_4 rfl (by decide) rfl ?_
  refine tw_iload_n 0 hO dX4_readLoad_5 rfl rfl ?_
  refine tw_bipush (v := (-6)) hO dX4_readLoad_6 (by decide) ?_
  refine tw_icmp_eq (tgt := 20) hO dX4_readLoad_8 (by decide) (fun cc => ?_) (fun cc => ?_)
  · replace h := tw_ifp cc h
    refine tw_iconst (v := 0) hO dX4_readLoad_20 (by decide) ?_
    exact tw_zret hO rfl dX4_readLoad_21 h
  · replace h := tw_ifn cc h
    refine tw_aload_n 1 hO dX4_readLoad_11 rfl rfl ?_
    refine tw_bipush (v := 93) hO dX4_readLoad_12 (by decide) ?_
    obtain ⟨q14, e14, h⟩ := tw_bd h
    refine tw_cVi hO (mX4_take l G e14) cfX4_take (t := 4) rfl (kX4_take e14) tw_w415 tw_w417 tw_w11 rfl rfl rfl rfl ⟨(Nat.le_of_ble_eq_true rfl), (Nat.le_of_ble_eq_true rfl)⟩ (Nat.le_of_ble_eq_true rfl) ⟨(Nat.le_of_ble_eq_true rfl), (Nat.le_of_ble_eq_true rfl)⟩ dX4_readLoad_14 ?_
    refine tw_if_ne (tgt := 22) hO dX4_readLoad_17 (by decide) (fun cc => ?_) (fun cc => ?_)
    · replace h := tw_ifn cc h
      refine tw_aload_n 1 hO dX4_readLoad_22 rfl rfl ?_
      obtain ⟨v23, e23, h⟩ := tw_bd h
      refine tw_getP hO dX4_readLoad_23 (t := 4) rfl 0 (by decide) rfl tw_w208 rfl e23 ?_
      refine tw_iconst (v := 4) hO dX4_readLoad_26 (by decide) ?_
      refine tw_iload_n 2 hO dX4_readLoad_27 rfl rfl ?_
      refine tw_iload_n 0 hO dX4_readLoad_28 rfl rfl ?_
      refine tw_bipush (v := (-6)) hO dX4_readLoad_29 (by decide) ?_
      refine tw_bipush (v := (-6)) hO dX4_readLoad_31 (by decide) ?_
      obtain ⟨σ33, e33, h⟩ := tw_bd h
      refine tw_cVv hO (mX3_add l G e33) cfX3_add (t := 3) rfl (kX3_add e33) tw_w435 tw_w436 tw_w437 rfl rfl rfl rfl ⟨(Nat.le_of_ble_eq_true rfl), (Nat.le_of_ble_eq_true rfl)⟩ (Nat.le_of_ble_eq_true rfl) ⟨(Nat.le_of_ble_eq_true rfl), (Nat.le_of_ble_eq_true rfl)⟩ dX4_readLoad_33 ?_
      refine tw_iconst (v := 1) hO dX4_readLoad_36 (by decide) ?_
      exact tw_zret hO rfl dX4_readLoad_37 h
    · replace h := tw_ifp cc h
      refine tw_iconst (v := 0) hO dX4_readLoad_20 (by decide) ?_
      exact tw_zret hO rfl dX4_readLoad_21 h
theorem cfX4_takeSign : tw_CF yX4_takeSign cX4_takeSign 1 (some .int) 0 := ⟨tw_w454, tw_w54, by decide +kernel, by decide +kernel, by decide +kernel⟩
theorem kX4_takeSign {σ : tw_St} {a : Nat} {q : Int32 × tw_St} (h : fX4_takeSign σ a = some q) : tw_is σ 4 a = some () := by
  unfold fX4_takeSign at h
  obtain ⟨_, e1, -⟩ := tw_bd h
  exact e1
set_option maxRecDepth 100000 in
set_option maxHeartbeats 4000000 in
theorem mX4_takeSign (l : Launch) (G : tw_G) {σ : tw_St} {a : Nat} {q : Int32 × tw_St} (h : fX4_takeSign σ a = some q) : tw_M l G yX4_takeSign cX4_takeSign 1 (some .int) rmX4_takeSign 0 0 σ [.ref a] (some (.int q.1)) q.2 := by
  unfold fX4_takeSign at h
  obtain ⟨_, -, h⟩ := tw_bd h
  refine tw_M.of (by decide +kernel) (Nat.le_of_ble_eq_true rfl) (fun p e s m args below meth c hnm hO => ?_)
  have hO : tw_O p s m args meth c cX4_takeSign RX4 1 (some .int) G := hO
  refine tw_aload_n 0 hO dX4_takeSign_0 rfl rfl ?_
  refine tw_bipush (v := 43) hO dX4_takeSign_1 (by decide) ?_
  obtain ⟨q3, e3, h⟩ := tw_bd h
  refine tw_cVi hO (mX4_take l G e3) cfX4_take (t := 4) rfl (kX4_take e3) tw_w415 tw_w417 tw_w11 rfl rfl rfl rfl ⟨(Nat.le_of_ble_eq_true rfl), (Nat.le_of_ble_eq_true rfl)⟩ (Nat.le_of_ble_eq_true rfl) ⟨(Nat.le_of_ble_eq_true rfl), (Nat.le_of_ble_eq_true rfl)⟩ dX4_takeSign_3 ?_
  refine tw_if_eq (tgt := 11) hO dX4_takeSign_6 (by decide) (fun cc => ?_) (fun cc => ?_)
  · replace h := tw_ifp cc h
    refine tw_aload_n 0 hO dX4_takeSign_11 rfl rfl ?_
    refine tw_bipush (v := 45) hO dX4_takeSign_12 (by decide) ?_
    obtain ⟨q14, e14, h⟩ := tw_bd h
    refine tw_cVi hO (mX4_take l G e14) cfX4_take (t := 4) rfl (kX4_take e14) tw_w415 tw_w417 tw_w11 rfl rfl rfl rfl ⟨(Nat.le_of_ble_eq_true rfl), (Nat.le_of_ble_eq_true rfl)⟩ (Nat.le_of_ble_eq_true rfl) ⟨(Nat.le_of_ble_eq_true rfl), (Nat.le_of_ble_eq_true rfl)⟩ dX4_takeSign_14 ?_
    refine tw_if_eq (tgt := 22) hO dX4_takeSign_17 (by decide) (fun cc => ?_) (fun cc => ?_)
    · replace h := tw_ifp cc h
      refine tw_aload_n 0 hO dX4_takeSign_22 rfl rfl ?_
      refine tw_bipush (v := 42) hO dX4_takeSign_23 (by decide) ?_
      obtain ⟨q25, e25, h⟩ := tw_bd h
      refine tw_cVi hO (mX4_take l G e25) cfX4_take (t := 4) rfl (kX4_take e25) tw_w415 tw_w417 tw_w11 rfl rfl rfl rfl ⟨(Nat.le_of_ble_eq_true rfl), (Nat.le_of_ble_eq_true rfl)⟩ (Nat.le_of_ble_eq_true rfl) ⟨(Nat.le_of_ble_eq_true rfl), (Nat.le_of_ble_eq_true rfl)⟩ dX4_takeSign_25 ?_
      refine tw_if_eq (tgt := 35) hO dX4_takeSign_28 (by decide) (fun cc => ?_) (fun cc => ?_)
      · replace h := tw_ifp cc h
        refine tw_bipush (v := (-6)) hO dX4_takeSign_35 (by decide) ?_
        exact tw_iret hO dX4_takeSign_37 h
      · replace h := tw_ifn cc h
        refine tw_iconst (v := 3) hO dX4_takeSign_31 (by decide) ?_
        refine tw_goto (tgt := 37) hO dX4_takeSign_32 (by decide) ?_
        exact tw_iret hO dX4_takeSign_37 h
    · replace h := tw_ifn cc h
      refine tw_iconst (v := 2) hO dX4_takeSign_20 (by decide) ?_
      exact tw_iret hO dX4_takeSign_21 h
  · replace h := tw_ifn cc h
    refine tw_iconst (v := 1) hO dX4_takeSign_9 (by decide) ?_
    exact tw_iret hO dX4_takeSign_10 h
theorem cfX4_readGiven : tw_CF yX4_readGiven cX4_readGiven 5 (some .boolean) 1 := ⟨tw_w446, tw_w54, by decide +kernel, by decide +kernel, by decide +kernel⟩
theorem kX4_readGiven {σ : tw_St} {a : Nat} {x1 : Int32} {q : Int32 × tw_St} (h : fX4_readGiven σ a x1 = some q) : tw_is σ 4 a = some () := by
  unfold fX4_readGiven at h
  obtain ⟨_, e1, -⟩ := tw_bd h
  exact e1
set_option maxRecDepth 100000 in
set_option maxHeartbeats 4000000 in
theorem mX4_readGiven (l : Launch) (G : tw_G) {σ : tw_St} {a : Nat} {x1 : Int32} {q : Int32 × tw_St} (h : fX4_readGiven σ a x1 = some q) : tw_M l G yX4_readGiven cX4_readGiven 5 (some .boolean) rmX4_readGiven 0 0 σ [.ref a, .int x1] (some (.int q.1)) q.2 := by
  unfold fX4_readGiven at h
  obtain ⟨_, -, h⟩ := tw_bd h
  refine tw_M.of (by decide +kernel) (Nat.le_of_ble_eq_true rfl) (fun p e s m args below meth c hnm hO => ?_)
  have hO : tw_O p s m args meth c cX4_readGiven RX4 5 (some .boolean) G := hO
  refine tw_aload_n 0 hO dX4_readGiven_0 rfl rfl ?_
  refine tw_bipush (v := 91) hO dX4_readGiven_1 (by decide) ?_
  obtain ⟨q3, e3, h⟩ := tw_bd h
  refine tw_cVi hO (mX4_take l G e3) cfX4_take (t := 4) rfl (kX4_take e3) tw_w415 tw_w417 tw_w11 rfl rfl rfl rfl ⟨(Nat.le_of_ble_eq_true rfl), (Nat.le_of_ble_eq_true rfl)⟩ (Nat.le_of_ble_eq_true rfl) ⟨(Nat.le_of_ble_eq_true rfl), (Nat.le_of_ble_eq_true rfl)⟩ dX4_readGiven_3 ?_
  refine tw_if_eq (tgt := 15) hO dX4_readGiven_6 (by decide) (fun cc => ?_) (fun cc => ?_)
  · replace h := tw_ifp cc h
    refine tw_aload_n 0 hO dX4_readGiven_15 rfl rfl ?_
    obtain ⟨q16, e16, h⟩ := tw_bd h
    refine tw_cVi hO (mX4_takeRegister l G e16) cfX4_takeRegister (t := 4) rfl (kX4_takeRegister e16) tw_w427 tw_w429 tw_w13 rfl rfl rfl rfl ⟨(Nat.le_of_ble_eq_true rfl), (Nat.le_of_ble_eq_true rfl)⟩ (Nat.le_of_ble_eq_true rfl) ⟨(Nat.le_of_ble_eq_true rfl), (Nat.le_of_ble_eq_true rfl)⟩ dX4_readGiven_16 ?_
    refine tw_istore_n (lv' := [(2, .int q16.1), (0, .ref a), (1, .int x1)]) hO dX4_readGiven_19 rfl (by decide) rfl ?_
    refine tw_iload_n 0 hO dX4_readGiven_20 rfl rfl ?_
    refine tw_bipush (v := (-6)) hO dX4_readGiven_21 (by decide) ?_
    refine tw_icmp_ne (tgt := 33) hO dX4_readGiven_23 (by decide) (fun cc => ?_) (fun cc => ?_)
    · replace h := tw_ifn cc h
      refine tw_aload_n 1 hO dX4_readGiven_33 rfl rfl ?_
      obtain ⟨q34, e34, h⟩ := tw_bd h
      refine tw_cVi hO (mX4_takeSign l G e34) cfX4_takeSign (t := 4) rfl (kX4_takeSign e34) tw_w451 tw_w453 tw_w18 rfl rfl rfl rfl ⟨(Nat.le_of_ble_eq_true rfl), (Nat.le_of_ble_eq_true rfl)⟩ (Nat.le_of_ble_eq_true rfl) ⟨(Nat.le_of_ble_eq_true rfl), (Nat.le_of_ble_eq_true rfl)⟩ dX4_readGiven_34 ?_
      refine tw_istore_n (lv' := [(3, .int q34.1), (2, .int q16.1), (0, .ref a), (1, .int x1)]) hO dX4_readGiven_37 rfl (by decide) rfl ?_
      refine tw_iload_n 0 hO dX4_readGiven_38 rfl rfl ?_
      refine tw_bipush (v := (-6)) hO dX4_readGiven_39 (by decide) ?_
      refine tw_icmp_ne (tgt := 46) hO dX4_readGiven_41 (by decide) (fun cc => ?_) (fun cc => ?_)
      · replace h := tw_ifn cc h
        refine tw_aload_n 2 hO dX4_readGiven_46 rfl rfl ?_
        obtain ⟨q47, e47, h⟩ := tw_bd h
        refine tw_cVi hO (mX4_takeRegister l G e47) cfX4_takeRegister (t := 4) rfl (kX4_takeRegister e47) tw_w427 tw_w429 tw_w13 rfl rfl rfl rfl ⟨(Nat.le_of_ble_eq_true rfl), (Nat.le_of_ble_eq_true rfl)⟩ (Nat.le_of_ble_eq_true rfl) ⟨(Nat.le_of_ble_eq_true rfl), (Nat.le_of_ble_eq_true rfl)⟩ dX4_readGiven_47 ?_
        refine tw_istore (lv' := [(4, .int q47.1), (3, .int q34.1), (2, .int q16.1), (0, .ref a), (1, .int x1)]) hO dX4_readGiven_50 (by decide) rfl ?_
        refine tw_iload 0 hO dX4_readGiven_52 rfl ?_
        refine tw_bipush (v := (-6)) hO dX4_readGiven_54 (by decide) ?_
        refine tw_icmp_ne (tgt := 61) hO dX4_readGiven_56 (by decide) (fun cc => ?_) (fun cc => ?_)
        · replace h := tw_ifn cc h
          refine tw_aload_n 3 hO dX4_readGiven_61 rfl rfl ?_
          obtain ⟨v62, e62, h⟩ := tw_bd h
          refine tw_getP hO dX4_readGiven_62 (t := 4) rfl 0 (by decide) rfl tw_w208 rfl e62 ?_
          refine tw_iload_n 1 hO dX4_readGiven_65 rfl rfl ?_
          refine tw_iload_n 4 hO dX4_readGiven_66 rfl rfl ?_
          refine tw_iload_n 2 hO dX4_readGiven_67 rfl rfl ?_
          refine tw_iload 0 hO dX4_readGiven_68 rfl ?_
          refine tw_bipush (v := (-6)) hO dX4_readGiven_70 (by decide) ?_
          obtain ⟨σ72, e72, h⟩ := tw_bd h
          refine tw_cVv hO (mX3_add l G e72) cfX3_add (t := 3) rfl (kX3_add e72) tw_w435 tw_w436 tw_w437 rfl rfl rfl rfl ⟨(Nat.le_of_ble_eq_true rfl), (Nat.le_of_ble_eq_true rfl)⟩ (Nat.le_of_ble_eq_true rfl) ⟨(Nat.le_of_ble_eq_true rfl), (Nat.le_of_ble_eq_true rfl)⟩ dX4_readGiven_72 ?_
          refine tw_iconst (v := 1) hO dX4_readGiven_75 (by decide) ?_
          exact tw_zret hO rfl dX4_readGiven_76 h
        · replace h := tw_ifp cc h
          refine tw_iconst (v := 0) hO dX4_readGiven_59 (by decide) ?_
          exact tw_zret hO rfl dX4_readGiven_60 h
      · replace h := tw_ifp cc h
        refine tw_iconst (v := 0) hO dX4_readGiven_44 (by decide) ?_
        exact tw_zret hO rfl dX4_readGiven_45 h
    · replace h := tw_ifp cc h
      refine tw_aload_n 1 hO dX4_readGiven_26 rfl rfl ?_
      refine tw_iconst (v := 0) hO dX4_readGiven_27 (by decide) ?_
      refine tw_iload_n 2 hO dX4_readGiven_28 rfl rfl ?_
      obtain ⟨q29, e29, h⟩ := tw_bd h
      refine tw_cVi hO (mX4_readNumber l G e29) cfX4_readNumber (t := 4) rfl (kX4_readNumber e29) tw_w439 tw_w441 tw_w15 rfl rfl rfl rfl ⟨(Nat.le_of_ble_eq_true rfl), (Nat.le_of_ble_eq_true rfl)⟩ (Nat.le_of_ble_eq_true rfl) ⟨(Nat.le_of_ble_eq_true rfl), (Nat.le_of_ble_eq_true rfl)⟩ dX4_readGiven_29 ?_
      obtain ⟨_, hz, h⟩ := tw_bd h
      exact tw_zret hO (tw_bz_sp hz).2.1 dX4_readGiven_32 h
  · replace h := tw_ifn cc h
    refine tw_aload_n 0 hO dX4_readGiven_9 rfl rfl ?_
    refine tw_iload_n 1 hO dX4_readGiven_10 rfl rfl ?_
    obtain ⟨q11, e11, h⟩ := tw_bd h
    refine tw_cVi hO (mX4_readLoad l G e11) cfX4_readLoad (t := 4) rfl (kX4_readLoad e11) tw_w447 tw_w449 tw_w17 rfl rfl rfl rfl ⟨(Nat.le_of_ble_eq_true rfl), (Nat.le_of_ble_eq_true rfl)⟩ (Nat.le_of_ble_eq_true rfl) ⟨(Nat.le_of_ble_eq_true rfl), (Nat.le_of_ble_eq_true rfl)⟩ dX4_readGiven_11 ?_
    obtain ⟨_, hz, h⟩ := tw_bd h
    exact tw_zret hO (tw_bz_sp hz).2.1 dX4_readGiven_14 h
theorem cfX4_readOrder : tw_CF yX4_readOrder cX4_readOrder 2 (some .boolean) 0 := ⟨tw_w414, tw_w54, by decide +kernel, by decide +kernel, by decide +kernel⟩
theorem kX4_readOrder {σ : tw_St} {a : Nat} {q : Int32 × tw_St} (h : fX4_readOrder σ a = some q) : tw_is σ 4 a = some () := by
  unfold fX4_readOrder at h
  obtain ⟨_, e1, -⟩ := tw_bd h
  exact e1
set_option maxRecDepth 100000 in
set_option maxHeartbeats 4000000 in
theorem mX4_readOrder (l : Launch) (G : tw_G) {σ : tw_St} {a : Nat} {q : Int32 × tw_St} (h : fX4_readOrder σ a = some q) : tw_M l G yX4_readOrder cX4_readOrder 2 (some .boolean) rmX4_readOrder 0 0 σ [.ref a] (some (.int q.1)) q.2 := by
  unfold fX4_readOrder at h
  obtain ⟨_, -, h⟩ := tw_bd h
  refine tw_M.of (by decide +kernel) (Nat.le_of_ble_eq_true rfl) (fun p e s m args below meth c hnm hO => ?_)
  have hO : tw_O p s m args meth c cX4_readOrder RX4 2 (some .boolean) G := hO
  refine tw_aload_n 0 hO dX4_readOrder_0 rfl rfl ?_
  refine tw_bipush (v := 91) hO dX4_readOrder_1 (by decide) ?_
  obtain ⟨q3, e3, h⟩ := tw_bd h
  refine tw_cVi hO (mX4_take l G e3) cfX4_take (t := 4) rfl (kX4_take e3) tw_w415 tw_w417 tw_w11 rfl rfl rfl rfl ⟨(Nat.le_of_ble_eq_true rfl), (Nat.le_of_ble_eq_true rfl)⟩ (Nat.le_of_ble_eq_true rfl) ⟨(Nat.le_of_ble_eq_true rfl), (Nat.le_of_ble_eq_true rfl)⟩ dX4_readOrder_3 ?_
  refine tw_if_eq (tgt := 14) hO dX4_readOrder_6 (by decide) (fun cc => ?_) (fun cc => ?_)
  · replace h := tw_ifp cc h
    refine tw_aload_n 0 hO dX4_readOrder_14 rfl rfl ?_
    obtain ⟨q15, e15, h⟩ := tw_bd h
    refine tw_cVi hO (mX4_takeRegister l G e15) cfX4_takeRegister (t := 4) rfl (kX4_takeRegister e15) tw_w427 tw_w429 tw_w13 rfl rfl rfl rfl ⟨(Nat.le_of_ble_eq_true rfl), (Nat.le_of_ble_eq_true rfl)⟩ (Nat.le_of_ble_eq_true rfl) ⟨(Nat.le_of_ble_eq_true rfl), (Nat.le_of_ble_eq_true rfl)⟩ dX4_readOrder_15 ?_
    refine tw_istore_n (lv' := [(1, .int q15.1), (0, .ref a)]) hO dX4_readOrder_18 rfl (by decide) rfl ?_
    refine tw_iload_n 0 hO dX4_readOrder_19 rfl rfl ?_
    refine tw_bipush (v := (-6)) hO dX4_readOrder_20 (by decide) ?_
    refine tw_icmp_ne (tgt := 27) hO dX4_readOrder_22 (by decide) (fun cc => ?_) (fun cc => ?_)
    · replace h := tw_ifn cc h
      refine tw_aload_n 1 hO dX4_readOrder_27 rfl rfl ?_
      refine tw_bipush (v := 63) hO dX4_readOrder_28 (by decide) ?_
      obtain ⟨q30, e30, h⟩ := tw_bd h
      refine tw_cVi hO (mX4_take l G e30) cfX4_take (t := 4) rfl (kX4_take e30) tw_w415 tw_w417 tw_w11 rfl rfl rfl rfl ⟨(Nat.le_of_ble_eq_true rfl), (Nat.le_of_ble_eq_true rfl)⟩ (Nat.le_of_ble_eq_true rfl) ⟨(Nat.le_of_ble_eq_true rfl), (Nat.le_of_ble_eq_true rfl)⟩ dX4_readOrder_30 ?_
      refine tw_if_eq (tgt := 44) hO dX4_readOrder_33 (by decide) (fun cc => ?_) (fun cc => ?_)
      · replace h := tw_ifp cc h
        refine tw_aload_n 1 hO dX4_readOrder_44 rfl rfl ?_
        refine tw_bipush (v := 61) hO dX4_readOrder_45 (by decide) ?_
        obtain ⟨q47, e47, h⟩ := tw_bd h
        refine tw_cVi hO (mX4_take l G e47) cfX4_take (t := 4) rfl (kX4_take e47) tw_w415 tw_w417 tw_w11 rfl rfl rfl rfl ⟨(Nat.le_of_ble_eq_true rfl), (Nat.le_of_ble_eq_true rfl)⟩ (Nat.le_of_ble_eq_true rfl) ⟨(Nat.le_of_ble_eq_true rfl), (Nat.le_of_ble_eq_true rfl)⟩ dX4_readOrder_47 ?_
        refine tw_if_eq (tgt := 65) hO dX4_readOrder_50 (by decide) (fun cc => ?_) (fun cc => ?_)
        · replace h := tw_ifp cc h
          refine tw_iconst (v := 0) hO dX4_readOrder_65 (by decide) ?_
          exact tw_zret hO rfl dX4_readOrder_66 h
        · replace h := tw_ifn cc h
          refine tw_aload_n 1 hO dX4_readOrder_53 rfl rfl ?_
          refine tw_iload_n 0 hO dX4_readOrder_54 rfl rfl ?_
          obtain ⟨q55, e55, h⟩ := tw_bd h
          refine tw_cVi hO (mX4_readGiven l G e55) cfX4_readGiven (t := 4) rfl (kX4_readGiven e55) tw_w443 tw_w445 tw_w16 rfl rfl rfl rfl ⟨(Nat.le_of_ble_eq_true rfl), (Nat.le_of_ble_eq_true rfl)⟩ (Nat.le_of_ble_eq_true rfl) ⟨(Nat.le_of_ble_eq_true rfl), (Nat.le_of_ble_eq_true rfl)⟩ dX4_readOrder_55 ?_
          refine tw_if_eq (tgt := 65) hO dX4_readOrder_58 (by decide) (fun cc => ?_) (fun cc => ?_)
          · replace h := tw_ifp cc h
            refine tw_iconst (v := 0) hO dX4_readOrder_65 (by decide) ?_
            exact tw_zret hO rfl dX4_readOrder_66 h
          · replace h := tw_ifn cc h
            refine tw_iconst (v := 1) hO dX4_readOrder_61 (by decide) ?_
            refine tw_goto (tgt := 66) hO dX4_readOrder_62 (by decide) ?_
            exact tw_zret hO rfl dX4_readOrder_66 h
      · replace h := tw_ifn cc h
        refine tw_aload_n 1 hO dX4_readOrder_36 rfl rfl ?_
        refine tw_bipush (v := 6) hO dX4_readOrder_37 (by decide) ?_
        refine tw_iload_n 0 hO dX4_readOrder_39 rfl rfl ?_
        obtain ⟨q40, e40, h⟩ := tw_bd h
        refine tw_cVi hO (mX4_readNumber l G e40) cfX4_readNumber (t := 4) rfl (kX4_readNumber e40) tw_w439 tw_w441 tw_w15 rfl rfl rfl rfl ⟨(Nat.le_of_ble_eq_true rfl), (Nat.le_of_ble_eq_true rfl)⟩ (Nat.le_of_ble_eq_true rfl) ⟨(Nat.le_of_ble_eq_true rfl), (Nat.le_of_ble_eq_true rfl)⟩ dX4_readOrder_40 ?_
        obtain ⟨_, hz, h⟩ := tw_bd h
        exact tw_zret hO (tw_bz_sp hz).2.1 dX4_readOrder_43 h
    · replace h := tw_ifp cc h
      refine tw_iconst (v := 0) hO dX4_readOrder_25 (by decide) ?_
      exact tw_zret hO rfl dX4_readOrder_26 h
  · replace h := tw_ifn cc h
    refine tw_aload_n 0 hO dX4_readOrder_9 rfl rfl ?_
    obtain ⟨q10, e10, h⟩ := tw_bd h
    refine tw_cVi hO (mX4_readStore l G e10) cfX4_readStore (t := 4) rfl (kX4_readStore e10) tw_w423 tw_w425 tw_w12 rfl rfl rfl rfl ⟨(Nat.le_of_ble_eq_true rfl), (Nat.le_of_ble_eq_true rfl)⟩ (Nat.le_of_ble_eq_true rfl) ⟨(Nat.le_of_ble_eq_true rfl), (Nat.le_of_ble_eq_true rfl)⟩ dX4_readOrder_10 ?_
    obtain ⟨_, hz, h⟩ := tw_bd h
    exact tw_zret hO (tw_bz_sp hz).2.1 dX4_readOrder_13 h
theorem cfX4_read : tw_CF yX4_read cX4_read 2 (some .int) 0 := ⟨tw_w410, tw_w54, by decide +kernel, by decide +kernel, by decide +kernel⟩
theorem kX4_read {σ : tw_St} {a : Nat} {q : Int32 × tw_St} (h : fX4_read σ a = some q) : tw_is σ 4 a = some () := by
  unfold fX4_read at h
  obtain ⟨_, e1, -⟩ := tw_bd h
  exact e1
set_option maxRecDepth 100000 in
set_option maxHeartbeats 4000000 in
theorem wX4_read_b85 (hO : tw_O p s m args meth c cX4_read RX4 2 (some .int) G) {σ : tw_St} {a0 : Nat} {q : Int32 × tw_St} (h : fX4_read_b85 σ a0 = some q) : tw_X p l e rmX4_read s m args below meth c 2 G σ 0 0 (tw_Q below args s G 0 0 (some (.int q.1)) q.2) 85 [(0, .ref a0)] [] := by
  unfold fX4_read_b85 at h
  refine tw_aload_n 0 hO dX4_read_85 rfl rfl ?_
  obtain ⟨v86, e86, h⟩ := tw_bd h
  refine tw_getI hO dX4_read_86 (t := 4) rfl 3 (by decide) rfl tw_w213 rfl e86 ?_
  exact tw_iret hO dX4_read_89 h
set_option maxRecDepth 100000 in
set_option maxHeartbeats 4000000 in
theorem wX4_read_b74 (hO : tw_O p s m args meth c cX4_read RX4 2 (some .int) G) {σ : tw_St} {a0 : Nat} {q : Int32 × tw_St} (h : fX4_read_b74 σ a0 = some q) : tw_X p l e rmX4_read s m args below meth c 2 G σ 0 0 (tw_Q below args s G 0 0 (some (.int q.1)) q.2) 74 [(0, .ref a0)] [] := by
  unfold fX4_read_b74 at h
  refine tw_aload_n 0 hO dX4_read_74 rfl rfl ?_
  obtain ⟨v75, e75, h⟩ := tw_bd h
  refine tw_getI hO dX4_read_75 (t := 4) rfl 3 (by decide) rfl tw_w213 rfl e75 ?_
  exact tw_iret hO dX4_read_78 h
set_option maxRecDepth 100000 in
set_option maxHeartbeats 4000000 in
theorem wX4_read_b33 (hO : tw_O p s m args meth c cX4_read RX4 2 (some .int) G) {σ : tw_St} {a0 : Nat} {q : Int32 × tw_St} (h : fX4_read_b33 σ a0 = some q) : tw_X p l e rmX4_read s m args below meth c 2 G σ 0 0 (tw_Q below args s G 0 0 (some (.int q.1)) q.2) 33 [(0, .ref a0)] [] := by
  unfold fX4_read_b33 at h
  refine tw_aload_n 0 hO dX4_read_33 rfl rfl ?_
  obtain ⟨v34, e34, h⟩ := tw_bd h
  refine tw_getI hO dX4_read_34 (t := 4) rfl 3 (by decide) rfl tw_w213 rfl e34 ?_
  exact tw_iret hO dX4_read_37 h
set_option maxRecDepth 100000 in
set_option maxHeartbeats 4000000 in
theorem wX4_read_h20 (hO : tw_O p s m args meth c cX4_read RX4 2 (some .int) G) {k20 : (tw_St → Nat → Int32 → Option (Int32 × tw_St))} (hk20 : ∀ (σ : tw_St) (a0 : Nat) (x1 : Int32) (q : Int32 × tw_St), k20 σ a0 x1 = some q → tw_X p l e rmX4_read s m args below meth c 2 G σ 0 0 (tw_Q below args s G 0 0 (some (.int q.1)) q.2) 20 [(0, .ref a0), (1, .int x1)] []) {σ : tw_St} {a0 : Nat} {x1 : Int32} {q : Int32 × tw_St} (h : fX4_read_h20 k20 σ a0 x1 = some q) : tw_X p l e rmX4_read s m args below meth c 2 G σ 0 0 (tw_Q below args s G 0 0 (some (.int q.1)) q.2) 20 [(0, .ref a0), (1, .int x1)] [] := by
  unfold fX4_read_h20 at h
  refine tw_iload_n 1 hO dX4_read_20 rfl rfl ?_
  refine tw_bipush (v := 80) hO dX4_read_21 (by decide) ?_
  refine tw_icmp_gt (tgt := 85) hO dX4_read_23 (by decide) (fun cc => ?_) (fun cc => ?_)
  · replace h := tw_ifp cc h
    refine tw_sub [0] rfl ?_
    exact wX4_read_b85 hO h
  · replace h := tw_ifn cc h
    refine tw_aload_n 0 hO dX4_read_26 rfl rfl ?_
    obtain ⟨q27, e27, h⟩ := tw_bd h
    refine tw_cVi hO (mX4_readOrder l G e27) cfX4_readOrder (t := 4) rfl (kX4_readOrder e27) tw_w411 tw_w413 tw_w10 rfl rfl rfl rfl ⟨(Nat.le_of_ble_eq_true rfl), (Nat.le_of_ble_eq_true rfl)⟩ (Nat.le_of_ble_eq_true rfl) ⟨(Nat.le_of_ble_eq_true rfl), (Nat.le_of_ble_eq_true rfl)⟩ dX4_read_27 ?_
    refine tw_if_ne (tgt := 38) hO dX4_read_30 (by decide) (fun cc => ?_) (fun cc => ?_)
    · replace h := tw_ifn cc h
      refine tw_aload_n 0 hO dX4_read_38 rfl rfl ?_
      refine tw_dup hO dX4_read_39 rfl ?_
      obtain ⟨v40, e40, h⟩ := tw_bd h
      refine tw_getI hO dX4_read_40 (t := 4) rfl 1 (by decide) rfl tw_w210 rfl e40 ?_
      refine tw_iconst (v := 1) hO dX4_read_43 (by decide) ?_
      refine tw_iadd hO dX4_read_44 ?_
      obtain ⟨σ45, e45, h⟩ := tw_bd h
      refine tw_putI hO dX4_read_45 (t := 4) rfl 1 (by decide) rfl tw_w210 rfl rfl ⟨rfl, rfl⟩ e45 ?_
      refine tw_aload_n 0 hO dX4_read_48 rfl rfl ?_
      obtain ⟨v49, e49, h⟩ := tw_bd h
      refine tw_getI hO dX4_read_49 (t := 4) rfl 3 (by decide) rfl tw_w213 rfl e49 ?_
      refine tw_aload_n 0 hO dX4_read_52 rfl rfl ?_
      obtain ⟨v53, e53, h⟩ := tw_bd h
      refine tw_getP hO dX4_read_53 (t := 4) rfl 2 (by decide) rfl tw_w212 rfl e53 ?_
      obtain ⟨v56, e56, h⟩ := tw_bd h
      refine tw_getI hO dX4_read_56 (t := 1) rfl 0 (by decide) rfl tw_w190 rfl e56 ?_
      refine tw_icmp_ne (tgt := 65) hO dX4_read_59 (by decide) (fun cc => ?_) (fun cc => ?_)
      · replace h := tw_ifn cc h
        refine tw_aload_n 0 hO dX4_read_65 rfl rfl ?_
        refine tw_bipush (v := 59) hO dX4_read_66 (by decide) ?_
        obtain ⟨q68, e68, h⟩ := tw_bd h
        refine tw_cVi hO (mX4_take l G e68) cfX4_take (t := 4) rfl (kX4_take e68) tw_w415 tw_w417 tw_w11 rfl rfl rfl rfl ⟨(Nat.le_of_ble_eq_true rfl), (Nat.le_of_ble_eq_true rfl)⟩ (Nat.le_of_ble_eq_true rfl) ⟨(Nat.le_of_ble_eq_true rfl), (Nat.le_of_ble_eq_true rfl)⟩ dX4_read_68 ?_
        refine tw_if_ne (tgt := 79) hO dX4_read_71 (by decide) (fun cc => ?_) (fun cc => ?_)
        · replace h := tw_ifn cc h
          refine tw_iinc (q := 1) (v := (x1 + 1)) (lv' := [(1, .int (x1 + 1)), (0, .ref a0)]) hO dX4_read_79 rfl rfl (by decide) rfl ?_
          refine tw_goto (tgt := 20) hO dX4_read_82 (by decide) ?_
          refine tw_sub [1, 0] rfl ?_
          exact hk20 _ _ _ _ h
        · replace h := tw_ifp cc h
          refine tw_sub [0] rfl ?_
          exact wX4_read_b74 hO h
      · replace h := tw_ifp cc h
        refine tw_bipush (v := (-6)) hO dX4_read_62 (by decide) ?_
        exact tw_iret hO dX4_read_64 h
    · replace h := tw_ifp cc h
      refine tw_sub [0] rfl ?_
      exact wX4_read_b33 hO h
set_option maxRecDepth 100000 in
set_option maxHeartbeats 4000000 in
theorem wX4_read_l20 (hO : tw_O p s m args meth c cX4_read RX4 2 (some .int) G) : ∀ (n : Nat) (σ : tw_St) (a0 : Nat) (x1 : Int32) (q : Int32 × tw_St), fX4_read_l20 n σ a0 x1 = some q → tw_X p l e rmX4_read s m args below meth c 2 G σ 0 0 (tw_Q below args s G 0 0 (some (.int q.1)) q.2) 20 [(0, .ref a0), (1, .int x1)] [] := by
  intro n
  induction n with
  | zero => intro _ _ _ q h; cases (show (none : Option (Int32 × tw_St)) = some q from h)
  | succ n ih => intro _ _ _ q h; exact wX4_read_h20 hO ih h
set_option maxRecDepth 100000 in
set_option maxHeartbeats 4000000 in
theorem mX4_read (l : Launch) (G : tw_G) {σ : tw_St} {a : Nat} {q : Int32 × tw_St} (h : fX4_read σ a = some q) : tw_M l G yX4_read cX4_read 2 (some .int) rmX4_read 0 0 σ [.ref a] (some (.int q.1)) q.2 := by
  unfold fX4_read at h
  obtain ⟨_, -, h⟩ := tw_bd h
  refine tw_M.of (by decide +kernel) (Nat.le_of_ble_eq_true rfl) (fun p e s m args below meth c hnm hO => ?_)
  have hO : tw_O p s m args meth c cX4_read RX4 2 (some .int) G := hO
  refine tw_aload_n 0 hO dX4_read_0 rfl rfl ?_
  obtain ⟨v1, e1, h⟩ := tw_bd h
  refine tw_getP hO dX4_read_1 (t := 4) rfl 0 (by decide) rfl tw_w208 rfl e1 ?_
  refine tw_iconst (v := 0) hO dX4_read_4 (by decide) ?_
  obtain ⟨σ5, e5, h⟩ := tw_bd h
  refine tw_putI hO dX4_read_5 (t := 3) rfl 0 (by decide) rfl tw_w80 rfl rfl ⟨rfl, rfl⟩ e5 ?_
  refine tw_aload_n 0 hO dX4_read_8 rfl rfl ?_
  refine tw_iconst (v := 0) hO dX4_read_9 (by decide) ?_
  obtain ⟨σ10, e10, h⟩ := tw_bd h
  refine tw_putI hO dX4_read_10 (t := 4) rfl 1 (by decide) rfl tw_w210 rfl rfl ⟨rfl, rfl⟩ e10 ?_
  refine tw_aload_n 0 hO dX4_read_13 rfl rfl ?_
  refine tw_iconst (v := 0) hO dX4_read_14 (by decide) ?_
  obtain ⟨σ15, e15, h⟩ := tw_bd h
  refine tw_putI hO dX4_read_15 (t := 4) rfl 3 (by decide) rfl tw_w213 rfl rfl ⟨rfl, rfl⟩ e15 ?_
  refine tw_iconst (v := 0) hO dX4_read_18 (by decide) ?_
  refine tw_istore_n (lv' := [(1, .int 0), (0, .ref a)]) hO dX4_read_19 rfl (by decide) rfl ?_
  refine tw_sub [1, 0] rfl ?_
  exact wX4_read_l20 hO _ _ _ _ _ h
theorem cfX2_sameValues : tw_CF yX2_sameValues cX2_sameValues 3 (some .boolean) 1 := ⟨tw_w571, tw_w52, by decide +kernel, by decide +kernel, by decide +kernel⟩
theorem kX2_sameValues {σ : tw_St} {a : Nat} {r1 : Nat} {q : Int32} (h : fX2_sameValues σ a r1 = some q) : tw_is σ 2 a = some () := by
  unfold fX2_sameValues at h
  obtain ⟨_, e1, -⟩ := tw_bd h
  exact e1
set_option maxRecDepth 100000 in
set_option maxHeartbeats 4000000 in
theorem wX2_sameValues_h2 (hO : tw_O p s m args meth c cX2_sameValues RX2 3 (some .boolean) G) {k2 : (tw_St → Nat → Nat → Int32 → Option (Int32))} (hk2 : ∀ (σ : tw_St) (a0 : Nat) (a1 : Nat) (x2 : Int32) (q : Int32), k2 σ a0 a1 x2 = some q → tw_X p l e rmX2_sameValues s m args below meth c 3 G σ 0 0 (tw_Q below args s G 0 0 (some (.int q)) σ) 2 [(0, .ref a0), (1, .ref a1), (2, .int x2)] []) {σ : tw_St} {a0 : Nat} {a1 : Nat} {x2 : Int32} {q : Int32} (h : fX2_sameValues_h2 k2 σ a0 a1 x2 = some q) : tw_X p l e rmX2_sameValues s m args below meth c 3 G σ 0 0 (tw_Q below args s G 0 0 (some (.int q)) σ) 2 [(0, .ref a0), (1, .ref a1), (2, .int x2)] [] := by
  unfold fX2_sameValues_h2 at h
  refine tw_iload_n 2 hO dX2_sameValues_2 rfl rfl ?_
  refine tw_bipush (v := 12) hO dX2_sameValues_3 (by decide) ?_
  refine tw_icmp_ge (tgt := 31) hO dX2_sameValues_5 (by decide) (fun cc => ?_) (fun cc => ?_)
  · replace h := tw_ifp cc h
    refine tw_iconst (v := 1) hO dX2_sameValues_31 (by decide) ?_
    exact tw_zretR hO rfl dX2_sameValues_32 h
  · replace h := tw_ifn cc h
    refine tw_aload_n 0 hO dX2_sameValues_8 rfl rfl ?_
    obtain ⟨v9, e9, h⟩ := tw_bd h
    refine tw_getP hO dX2_sameValues_9 (t := 2) rfl 3 (by decide) rfl tw_w129 rfl e9 ?_
    refine tw_iload_n 2 hO dX2_sameValues_12 rfl rfl ?_
    obtain ⟨v13, e13, h⟩ := tw_bd h
    refine tw_iald hO dX2_sameValues_13 e13 ?_
    refine tw_aload_n 1 hO dX2_sameValues_14 rfl rfl ?_
    obtain ⟨v15, e15, h⟩ := tw_bd h
    refine tw_getP hO dX2_sameValues_15 (t := 2) rfl 3 (by decide) rfl tw_w129 rfl e15 ?_
    refine tw_iload_n 2 hO dX2_sameValues_18 rfl rfl ?_
    obtain ⟨v19, e19, h⟩ := tw_bd h
    refine tw_iald hO dX2_sameValues_19 e19 ?_
    refine tw_icmp_eq (tgt := 25) hO dX2_sameValues_20 (by decide) (fun cc => ?_) (fun cc => ?_)
    · replace h := tw_ifp cc h
      refine tw_iinc (q := 2) (v := (x2 + 1)) (lv' := [(2, .int (x2 + 1)), (0, .ref a0), (1, .ref a1)]) hO dX2_sameValues_25 rfl rfl (by decide) rfl ?_
      refine tw_goto (tgt := 2) hO dX2_sameValues_28 (by decide) ?_
      refine tw_sub [1, 2, 0] rfl ?_
      exact hk2 _ _ _ _ _ h
    · replace h := tw_ifn cc h
      refine tw_iconst (v := 0) hO dX2_sameValues_23 (by decide) ?_
      exact tw_zretR hO rfl dX2_sameValues_24 h
set_option maxRecDepth 100000 in
set_option maxHeartbeats 4000000 in
theorem wX2_sameValues_l2 (hO : tw_O p s m args meth c cX2_sameValues RX2 3 (some .boolean) G) : ∀ (n : Nat) (σ : tw_St) (a0 : Nat) (a1 : Nat) (x2 : Int32) (q : Int32), fX2_sameValues_l2 n σ a0 a1 x2 = some q → tw_X p l e rmX2_sameValues s m args below meth c 3 G σ 0 0 (tw_Q below args s G 0 0 (some (.int q)) σ) 2 [(0, .ref a0), (1, .ref a1), (2, .int x2)] [] := by
  intro n
  induction n with
  | zero => intro _ _ _ _ q h; cases (show (none : Option (Int32)) = some q from h)
  | succ n ih => intro _ _ _ _ q h; exact wX2_sameValues_h2 hO ih h
set_option maxRecDepth 100000 in
set_option maxHeartbeats 4000000 in
theorem mX2_sameValues (l : Launch) (G : tw_G) {σ : tw_St} {a : Nat} {r1 : Nat} {q : Int32} (h : fX2_sameValues σ a r1 = some q) : tw_M l G yX2_sameValues cX2_sameValues 3 (some .boolean) rmX2_sameValues 0 0 σ [.ref a, .ref r1] (some (.int q)) σ := by
  unfold fX2_sameValues at h
  obtain ⟨_, -, h⟩ := tw_bd h
  refine tw_M.of (by decide +kernel) (Nat.le_of_ble_eq_true rfl) (fun p e s m args below meth c hnm hO => ?_)
  have hO : tw_O p s m args meth c cX2_sameValues RX2 3 (some .boolean) G := hO
  refine tw_iconst (v := 0) hO dX2_sameValues_0 (by decide) ?_
  refine tw_istore_n (lv' := [(2, .int 0), (0, .ref a), (1, .ref r1)]) hO dX2_sameValues_1 rfl (by decide) rfl ?_
  refine tw_sub [1, 2, 0] rfl ?_
  exact wX2_sameValues_l2 hO _ _ _ _ _ _ h
end TW_05b_X2_X4
