section TW_05a_J9_X3_X1
variable {p : Program} {l : Launch} {e : Env} {s : State} {m : MethodId} {args : Array Value} {below : List Frame} {meth : Method} {c : Code} {G : tw_G}
theorem cfX3_init : tw_CF yX3_init cX3_init 1 none 0 := ⟨tw_w78, tw_w50, by decide +kernel, by decide +kernel, by decide +kernel⟩
theorem kX3_init {σ : tw_St} {a : Nat} {q : tw_St} (h : fX3_init σ a = some q) : tw_is σ 3 a = some () := by
  unfold fX3_init at h
  obtain ⟨_, e1, -⟩ := tw_bd h
  exact e1
set_option maxRecDepth 100000 in
set_option maxHeartbeats 4000000 in
theorem mX3_init (l : Launch) (G : tw_G) {σ : tw_St} {a : Nat} {q : tw_St} (h : fX3_init σ a = some q) : tw_M l G yX3_init cX3_init 1 none rmX3_init 1 60 σ [.ref a] none q := by
  unfold fX3_init at h
  obtain ⟨_, -, h⟩ := tw_bd h
  refine tw_M.of (by decide +kernel) (Nat.le_of_ble_eq_true rfl) (fun p e s m args below meth c hnm hO => ?_)
  have hO : tw_O p s m args meth c cX3_init RX3 1 none G := hO
  refine tw_aload_n 0 hO dX3_init_0 rfl rfl ?_
  refine tw_objI hO dX3_init_1 tw_w79 tw_w65 tw_w66 (Nat.le_of_ble_eq_true rfl) (Nat.le_of_ble_eq_true rfl) ?_
  refine tw_aload_n 0 hO dX3_init_4 rfl rfl ?_
  refine tw_bipush (v := 60) hO dX3_init_5 (by decide) ?_
  refine tw_newA (t := 20) (N := 60) hO dX3_init_7 ⟨by decide, by decide⟩ rfl tw_w90 (by decide) (by decide) (Nat.le_of_ble_eq_true rfl) (Nat.le_of_ble_eq_true rfl) (Nat.le_of_ble_eq_true rfl) ?_
  obtain ⟨σ9, e9, h⟩ := tw_bd h
  refine tw_putP hO hnm dX3_init_9 (t := 3) rfl 1 (by decide) rfl rfl tw_w84 rfl rfl ⟨rfl, rfl⟩ e9 ?_
  refine tw_wide (Nat.le_of_ble_eq_true rfl : _ ≤ 1) (Nat.le_of_ble_eq_true rfl : _ ≤ 60) ?_
  exact tw_vret hO dX3_init_12 h
theorem cfX1_init : tw_CF yX1_init cX1_init 1 none 0 := ⟨tw_w188, tw_w53, by decide +kernel, by decide +kernel, by decide +kernel⟩
theorem kX1_init {σ : tw_St} {a : Nat} {q : tw_St} (h : fX1_init σ a = some q) : tw_is σ 1 a = some () := by
  unfold fX1_init at h
  obtain ⟨_, e1, -⟩ := tw_bd h
  exact e1
set_option maxRecDepth 100000 in
set_option maxHeartbeats 4000000 in
theorem mX1_init (l : Launch) (G : tw_G) {σ : tw_St} {a : Nat} {q : tw_St} (h : fX1_init σ a = some q) : tw_M l G yX1_init cX1_init 1 none rmX1_init 1 80 σ [.ref a] none q := by
  unfold fX1_init at h
  obtain ⟨_, -, h⟩ := tw_bd h
  refine tw_M.of (by decide +kernel) (Nat.le_of_ble_eq_true rfl) (fun p e s m args below meth c hnm hO => ?_)
  have hO : tw_O p s m args meth c cX1_init RX1 1 none G := hO
  refine tw_aload_n 0 hO dX1_init_0 rfl rfl ?_
  refine tw_objI hO dX1_init_1 tw_w189 tw_w65 tw_w66 (Nat.le_of_ble_eq_true rfl) (Nat.le_of_ble_eq_true rfl) ?_
  refine tw_aload_n 0 hO dX1_init_4 rfl rfl ?_
  refine tw_bipush (v := 80) hO dX1_init_5 (by decide) ?_
  refine tw_newA (t := 21) (N := 80) hO dX1_init_7 ⟨by decide, by decide⟩ rfl tw_w199 (by decide) (by decide) (Nat.le_of_ble_eq_true rfl) (Nat.le_of_ble_eq_true rfl) (Nat.le_of_ble_eq_true rfl) ?_
  obtain ⟨σ9, e9, h⟩ := tw_bd h
  refine tw_putP hO hnm dX1_init_9 (t := 1) rfl 1 (by decide) rfl rfl tw_w193 rfl rfl ⟨rfl, rfl⟩ e9 ?_
  refine tw_wide (Nat.le_of_ble_eq_true rfl : _ ≤ 1) (Nat.le_of_ble_eq_true rfl : _ ≤ 80) ?_
  exact tw_vret hO dX1_init_12 h
theorem cfX3_copyFrom : tw_CF yX3_copyFrom cX3_copyFrom 2 none 1 := ⟨tw_w294, tw_w50, by decide +kernel, by decide +kernel, by decide +kernel⟩
theorem kX3_copyFrom {σ : tw_St} {a : Nat} {r1 : Nat} {q : tw_St} (h : fX3_copyFrom σ a r1 = some q) : tw_is σ 3 a = some () := by
  unfold fX3_copyFrom at h
  obtain ⟨_, e1, -⟩ := tw_bd h
  exact e1
set_option maxRecDepth 100000 in
set_option maxHeartbeats 4000000 in
theorem mX3_copyFrom (l : Launch) (G : tw_G) {σ : tw_St} {a : Nat} {r1 : Nat} {q : tw_St} (h : fX3_copyFrom σ a r1 = some q) : tw_M l G yX3_copyFrom cX3_copyFrom 2 none rmX3_copyFrom 0 0 σ [.ref a, .ref r1] none q := by
  unfold fX3_copyFrom at h
  obtain ⟨_, -, h⟩ := tw_bd h
  refine tw_M.of (by decide +kernel) (Nat.le_of_ble_eq_true rfl) (fun p e s m args below meth c hnm hO => ?_)
  have hO : tw_O p s m args meth c cX3_copyFrom RX3 2 none G := hO
  refine tw_aload_n 0 hO dX3_copyFrom_0 rfl rfl ?_
  refine tw_aload_n 1 hO dX3_copyFrom_1 rfl rfl ?_
  obtain ⟨v2, e2, h⟩ := tw_bd h
  refine tw_getI hO dX3_copyFrom_2 (t := 3) rfl 0 (by decide) rfl tw_w81 rfl e2 ?_
  obtain ⟨σ5, e5, h⟩ := tw_bd h
  refine tw_putI hO dX3_copyFrom_5 (t := 3) rfl 0 (by decide) rfl tw_w81 rfl rfl ⟨rfl, rfl⟩ e5 ?_
  refine tw_aload_n 1 hO dX3_copyFrom_8 rfl rfl ?_
  obtain ⟨v9, e9, h⟩ := tw_bd h
  refine tw_getP hO dX3_copyFrom_9 (t := 3) rfl 1 (by decide) rfl tw_w84 rfl e9 ?_
  refine tw_iconst (v := 0) hO dX3_copyFrom_12 (by decide) ?_
  refine tw_aload_n 0 hO dX3_copyFrom_13 rfl rfl ?_
  obtain ⟨v14, e14, h⟩ := tw_bd h
  refine tw_getP hO dX3_copyFrom_14 (t := 3) rfl 1 (by decide) rfl tw_w84 rfl e14 ?_
  refine tw_iconst (v := 0) hO dX3_copyFrom_17 (by decide) ?_
  refine tw_bipush (v := 60) hO dX3_copyFrom_18 (by decide) ?_
  obtain ⟨σ20, e20, h⟩ := tw_bd h
  refine tw_copy hO dX3_copyFrom_20 tw_w295 tw_w290 tw_w289 tw_w57 (Nat.le_of_ble_eq_true rfl) (Nat.le_of_ble_eq_true rfl) e20 ?_
  exact tw_vret hO dX3_copyFrom_23 h
theorem cfX3_told : tw_CF yX3_told cX3_told 3 (some .int) 2 := ⟨tw_w316, tw_w50, by decide +kernel, by decide +kernel, by decide +kernel⟩
theorem kX3_told {σ : tw_St} {a : Nat} {x1 : Int32} {x2 : Int32} {q : Int32} (h : fX3_told σ a x1 x2 = some q) : tw_is σ 3 a = some () := by
  unfold fX3_told at h
  obtain ⟨_, e1, -⟩ := tw_bd h
  exact e1
set_option maxRecDepth 100000 in
set_option maxHeartbeats 4000000 in
theorem mX3_told (l : Launch) (G : tw_G) {σ : tw_St} {a : Nat} {x1 : Int32} {x2 : Int32} {q : Int32} (h : fX3_told σ a x1 x2 = some q) : tw_M l G yX3_told cX3_told 3 (some .int) rmX3_told 0 0 σ [.ref a, .int x1, .int x2] (some (.int q)) σ := by
  unfold fX3_told at h
  obtain ⟨_, -, h⟩ := tw_bd h
  refine tw_M.of (by decide +kernel) (Nat.le_of_ble_eq_true rfl) (fun p e s m args below meth c hnm hO => ?_)
  have hO : tw_O p s m args meth c cX3_told RX3 3 (some .int) G := hO
  refine tw_iload_n 1 hO dX3_told_0 rfl rfl ?_
  refine tw_if_lt (tgt := 21) hO dX3_told_1 (by decide) (fun cc => ?_) (fun cc => ?_)
  · replace h := tw_ifp cc h
    refine tw_bipush (v := (-6)) hO dX3_told_21 (by decide) ?_
    exact tw_iretR hO dX3_told_23 h
  · replace h := tw_ifn cc h
    refine tw_iload_n 1 hO dX3_told_4 rfl rfl ?_
    refine tw_aload_n 0 hO dX3_told_5 rfl rfl ?_
    obtain ⟨v6, e6, h⟩ := tw_bd h
    refine tw_getI hO dX3_told_6 (t := 3) rfl 0 (by decide) rfl tw_w81 rfl e6 ?_
    refine tw_icmp_ge (tgt := 21) hO dX3_told_9 (by decide) (fun cc => ?_) (fun cc => ?_)
    · replace h := tw_ifp cc h
      refine tw_bipush (v := (-6)) hO dX3_told_21 (by decide) ?_
      exact tw_iretR hO dX3_told_23 h
    · replace h := tw_ifn cc h
      refine tw_iload_n 2 hO dX3_told_12 rfl rfl ?_
      refine tw_if_lt (tgt := 21) hO dX3_told_13 (by decide) (fun cc => ?_) (fun cc => ?_)
      · replace h := tw_ifp cc h
        refine tw_bipush (v := (-6)) hO dX3_told_21 (by decide) ?_
        exact tw_iretR hO dX3_told_23 h
      · replace h := tw_ifn cc h
        refine tw_iload_n 2 hO dX3_told_16 rfl rfl ?_
        refine tw_iconst (v := 5) hO dX3_told_17 (by decide) ?_
        refine tw_icmp_lt (tgt := 24) hO dX3_told_18 (by decide) (fun cc => ?_) (fun cc => ?_)
        · replace h := tw_ifp cc h
          refine tw_aload_n 0 hO dX3_told_24 rfl rfl ?_
          obtain ⟨v25, e25, h⟩ := tw_bd h
          refine tw_getP hO dX3_told_25 (t := 3) rfl 1 (by decide) rfl tw_w84 rfl e25 ?_
          refine tw_iload_n 1 hO dX3_told_28 rfl rfl ?_
          refine tw_iconst (v := 5) hO dX3_told_29 (by decide) ?_
          refine tw_imul hO dX3_told_30 ?_
          refine tw_iload_n 2 hO dX3_told_31 rfl rfl ?_
          refine tw_iadd hO dX3_told_32 ?_
          obtain ⟨v33, e33, h⟩ := tw_bd h
          refine tw_iald hO dX3_told_33 e33 ?_
          exact tw_iretR hO dX3_told_34 h
        · replace h := tw_ifn cc h
          refine tw_bipush (v := (-6)) hO dX3_told_21 (by decide) ?_
          exact tw_iretR hO dX3_told_23 h
theorem cfJ9_floorMod : tw_CF yJ9_floorMod_7cf53 cJ9_floorMod_7cf53 3 (some .int) 2 := ⟨tw_w327, tw_w58, by decide +kernel, by decide +kernel, by decide +kernel⟩
set_option maxRecDepth 100000 in
set_option maxHeartbeats 4000000 in
theorem mJ9_floorMod (l : Launch) (G : tw_G) {σ : tw_St} {x0 : Int32} {x1 : Int32} {q : Int32} (h : fJ9_floorMod σ x0 x1 = some q) : tw_M l G yJ9_floorMod_7cf53 cJ9_floorMod_7cf53 3 (some .int) rmJ9_floorMod 0 0 σ [.int x0, .int x1] (some (.int q)) σ := by
  unfold fJ9_floorMod at h
  refine tw_M.ofF (by decide +kernel) (Nat.le_of_ble_eq_true rfl) (fun p e s m args below meth c hnm hO => ?_)
  have hO : tw_O p s m args meth c cJ9_floorMod_7cf53 RJ9 3 (some .int) G := hO
  refine tw_iload_n 0 hO dJ9_floorMod_7cf53_0 rfl rfl ?_
  refine tw_iload_n 1 hO dJ9_floorMod_7cf53_1 rfl rfl ?_
  by_cases c2 : x1 = 0
  · exact absurd (tw_ifp c2 h) (by simp)
  replace h := tw_ifn c2 h
  refine tw_irem hO dJ9_floorMod_7cf53_2 c2 ?_
  refine tw_istore_n (lv' := [(2, .int (x0 - x0 / x1 * x1)), (0, .int x0), (1, .int x1)]) hO dJ9_floorMod_7cf53_3 rfl (by decide) rfl ?_
  refine tw_iload_n 1 hO dJ9_floorMod_7cf53_4 rfl rfl ?_
  refine tw_iload_n 2 hO dJ9_floorMod_7cf53_5 rfl rfl ?_
  refine tw_ixor hO dJ9_floorMod_7cf53_6 ?_
  refine tw_if_ge (tgt := 18) hO dJ9_floorMod_7cf53_7 (by decide) (fun cc => ?_) (fun cc => ?_)
  · replace h := tw_ifp cc h
    refine tw_iload_n 0 hO dJ9_floorMod_7cf53_18 rfl rfl ?_
    exact tw_iretR hO dJ9_floorMod_7cf53_19 h
  · replace h := tw_ifn cc h
    refine tw_iload_n 0 hO dJ9_floorMod_7cf53_10 rfl rfl ?_
    refine tw_if_eq (tgt := 18) hO dJ9_floorMod_7cf53_11 (by decide) (fun cc => ?_) (fun cc => ?_)
    · replace h := tw_ifp cc h
      refine tw_iload_n 0 hO dJ9_floorMod_7cf53_18 rfl rfl ?_
      exact tw_iretR hO dJ9_floorMod_7cf53_19 h
    · replace h := tw_ifn cc h
      refine tw_iload_n 0 hO dJ9_floorMod_7cf53_14 rfl rfl ?_
      refine tw_iload_n 2 hO dJ9_floorMod_7cf53_15 rfl rfl ?_
      refine tw_iadd hO dJ9_floorMod_7cf53_16 ?_
      exact tw_iretR hO dJ9_floorMod_7cf53_17 h
theorem cfX3_roomOf : tw_CF yX3_roomOf cX3_roomOf 2 (some .int) 1 := ⟨tw_w359, tw_w50, by decide +kernel, by decide +kernel, by decide +kernel⟩
theorem kX3_roomOf {σ : tw_St} {a : Nat} {x1 : Int32} {q : Int32} (h : fX3_roomOf σ a x1 = some q) : tw_is σ 3 a = some () := by
  unfold fX3_roomOf at h
  obtain ⟨_, e1, -⟩ := tw_bd h
  exact e1
set_option maxRecDepth 100000 in
set_option maxHeartbeats 4000000 in
theorem mX3_roomOf (l : Launch) (G : tw_G) {σ : tw_St} {a : Nat} {x1 : Int32} {q : Int32} (h : fX3_roomOf σ a x1 = some q) : tw_M l G yX3_roomOf cX3_roomOf 2 (some .int) rmX3_roomOf 0 0 σ [.ref a, .int x1] (some (.int q)) σ := by
  unfold fX3_roomOf at h
  obtain ⟨_, -, h⟩ := tw_bd h
  refine tw_M.of (by decide +kernel) (Nat.le_of_ble_eq_true rfl) (fun p e s m args below meth c hnm hO => ?_)
  have hO : tw_O p s m args meth c cX3_roomOf RX3 2 (some .int) G := hO
  refine tw_aload_n 0 hO dX3_roomOf_0 rfl rfl ?_
  refine tw_iload_n 1 hO dX3_roomOf_1 rfl rfl ?_
  refine tw_iconst (v := 0) hO dX3_roomOf_2 (by decide) ?_
  obtain ⟨v3, e3, h⟩ := tw_bd h
  refine tw_cVi hO (mX3_told l G e3) cfX3_told (t := 3) rfl (kX3_told e3) tw_w360 tw_w314 tw_w315 rfl rfl rfl rfl ⟨(Nat.le_of_ble_eq_true rfl), (Nat.le_of_ble_eq_true rfl)⟩ (Nat.le_of_ble_eq_true rfl) ⟨(Nat.le_of_ble_eq_true rfl), (Nat.le_of_ble_eq_true rfl)⟩ dX3_roomOf_3 ?_
  by_cases s3 : v3 = 3
  · replace h := tw_ifp s3 h
    refine tw_tableIn (off := 26) (tgt := 32) hO dX3_roomOf_6 (by rw [s3]; decide) (by rw [s3]; decide) (by rw [s3]; rfl) (by decide) ?_
    refine tw_iconst (v := 0) hO dX3_roomOf_32 (by decide) ?_
    exact tw_iretR hO dX3_roomOf_33 h
  replace h := tw_ifn s3 h
  by_cases s4 : v3 = 4
  · replace h := tw_ifp s4 h
    refine tw_tableIn (off := 28) (tgt := 34) hO dX3_roomOf_6 (by rw [s4]; decide) (by rw [s4]; decide) (by rw [s4]; rfl) (by decide) ?_
    refine tw_iconst (v := 1) hO dX3_roomOf_34 (by decide) ?_
    exact tw_iretR hO dX3_roomOf_35 h
  replace h := tw_ifn s4 h
  by_cases s5 : v3 = 5
  · replace h := tw_ifp s5 h
    refine tw_tableIn (off := 28) (tgt := 34) hO dX3_roomOf_6 (by rw [s5]; decide) (by rw [s5]; decide) (by rw [s5]; rfl) (by decide) ?_
    refine tw_iconst (v := 1) hO dX3_roomOf_34 (by decide) ?_
    exact tw_iretR hO dX3_roomOf_35 h
  replace h := tw_ifn s5 h
  refine tw_tableOut (tgt := 36) hO dX3_roomOf_6 (by have n3 := lv_neT (a := 3) s3 rfl; have n4 := lv_neT (a := 4) s4 rfl; have n5 := lv_neT (a := 5) s5 rfl; omega) (by decide) ?_
  refine tw_bipush (v := (-6)) hO dX3_roomOf_36 (by decide) ?_
  exact tw_iretR hO dX3_roomOf_38 h
theorem cfJ9_max : tw_CF yJ9_max_7cf53 cJ9_max_7cf53 2 (some .int) 2 := ⟨tw_w380, tw_w58, by decide +kernel, by decide +kernel, by decide +kernel⟩
set_option maxRecDepth 100000 in
set_option maxHeartbeats 4000000 in
theorem mJ9_max (l : Launch) (G : tw_G) {σ : tw_St} {x0 : Int32} {x1 : Int32} {q : Int32} (h : fJ9_max σ x0 x1 = some q) : tw_M l G yJ9_max_7cf53 cJ9_max_7cf53 2 (some .int) rmJ9_max 0 0 σ [.int x0, .int x1] (some (.int q)) σ := by
  unfold fJ9_max at h
  refine tw_M.ofF (by decide +kernel) (Nat.le_of_ble_eq_true rfl) (fun p e s m args below meth c hnm hO => ?_)
  have hO : tw_O p s m args meth c cJ9_max_7cf53 RJ9 2 (some .int) G := hO
  refine tw_iload_n 0 hO dJ9_max_7cf53_0 rfl rfl ?_
  refine tw_iload_n 1 hO dJ9_max_7cf53_1 rfl rfl ?_
  refine tw_icmp_lt (tgt := 9) hO dJ9_max_7cf53_2 (by decide) (fun cc => ?_) (fun cc => ?_)
  · replace h := tw_ifp cc h
    refine tw_iload_n 1 hO dJ9_max_7cf53_9 rfl rfl ?_
    exact tw_iretR hO dJ9_max_7cf53_10 h
  · replace h := tw_ifn cc h
    refine tw_iload_n 0 hO dJ9_max_7cf53_5 rfl rfl ?_
    refine tw_goto (tgt := 10) hO dJ9_max_7cf53_6 (by decide) ?_
    exact tw_iretR hO dJ9_max_7cf53_10 h
theorem cfX3_givenBy : tw_CF yX3_givenBy cX3_givenBy 3 (some .int) 1 := ⟨tw_w384, tw_w50, by decide +kernel, by decide +kernel, by decide +kernel⟩
theorem kX3_givenBy {σ : tw_St} {a : Nat} {x1 : Int32} {q : Int32} (h : fX3_givenBy σ a x1 = some q) : tw_is σ 3 a = some () := by
  unfold fX3_givenBy at h
  obtain ⟨_, e1, -⟩ := tw_bd h
  exact e1
set_option maxRecDepth 100000 in
set_option maxHeartbeats 4000000 in
theorem wX3_givenBy_b18 (hO : tw_O p s m args meth c cX3_givenBy RX3 3 (some .int) G) {σ : tw_St} {q : Int32} (h : fX3_givenBy_b18 σ = some q) : tw_X p l e rmX3_givenBy s m args below meth c 3 G σ 0 0 (tw_Q below args s G 0 0 (some (.int q)) σ) 18 [] [] := by
  unfold fX3_givenBy_b18 at h
  refine tw_bipush (v := (-6)) hO dX3_givenBy_18 (by decide) ?_
  refine tw_goto (tgt := 29) hO dX3_givenBy_20 (by decide) ?_
  exact tw_iretR hO dX3_givenBy_29 h
set_option maxRecDepth 100000 in
set_option maxHeartbeats 4000000 in
theorem mX3_givenBy (l : Launch) (G : tw_G) {σ : tw_St} {a : Nat} {x1 : Int32} {q : Int32} (h : fX3_givenBy σ a x1 = some q) : tw_M l G yX3_givenBy cX3_givenBy 3 (some .int) rmX3_givenBy 0 0 σ [.ref a, .int x1] (some (.int q)) σ := by
  unfold fX3_givenBy at h
  obtain ⟨_, -, h⟩ := tw_bd h
  refine tw_M.of (by decide +kernel) (Nat.le_of_ble_eq_true rfl) (fun p e s m args below meth c hnm hO => ?_)
  have hO : tw_O p s m args meth c cX3_givenBy RX3 3 (some .int) G := hO
  refine tw_aload_n 0 hO dX3_givenBy_0 rfl rfl ?_
  refine tw_iload_n 1 hO dX3_givenBy_1 rfl rfl ?_
  refine tw_iconst (v := 0) hO dX3_givenBy_2 (by decide) ?_
  obtain ⟨v3, e3, h⟩ := tw_bd h
  refine tw_cVi hO (mX3_told l G e3) cfX3_told (t := 3) rfl (kX3_told e3) tw_w360 tw_w314 tw_w315 rfl rfl rfl rfl ⟨(Nat.le_of_ble_eq_true rfl), (Nat.le_of_ble_eq_true rfl)⟩ (Nat.le_of_ble_eq_true rfl) ⟨(Nat.le_of_ble_eq_true rfl), (Nat.le_of_ble_eq_true rfl)⟩ dX3_givenBy_3 ?_
  refine tw_istore_n (lv' := [(2, .int v3), (0, .ref a), (1, .int x1)]) hO dX3_givenBy_6 rfl (by decide) rfl ?_
  refine tw_iload_n 0 hO dX3_givenBy_7 rfl rfl ?_
  refine tw_iconst (v := 5) hO dX3_givenBy_8 (by decide) ?_
  refine tw_icmp_eq (tgt := 18) hO dX3_givenBy_9 (by decide) (fun cc => ?_) (fun cc => ?_)
  · replace h := tw_ifp cc h
    refine tw_sub [] rfl ?_
    exact wX3_givenBy_b18 hO h
  · replace h := tw_ifn cc h
    refine tw_iload_n 0 hO dX3_givenBy_12 rfl rfl ?_
    refine tw_bipush (v := 6) hO dX3_givenBy_13 (by decide) ?_
    refine tw_icmp_ne (tgt := 23) hO dX3_givenBy_15 (by decide) (fun cc => ?_) (fun cc => ?_)
    · replace h := tw_ifn cc h
      refine tw_aload_n 1 hO dX3_givenBy_23 rfl rfl ?_
      refine tw_iload_n 2 hO dX3_givenBy_24 rfl rfl ?_
      refine tw_iconst (v := 1) hO dX3_givenBy_25 (by decide) ?_
      obtain ⟨v26, e26, h⟩ := tw_bd h
      refine tw_cVi hO (mX3_told l G e26) cfX3_told (t := 3) rfl (kX3_told e26) tw_w360 tw_w314 tw_w315 rfl rfl rfl rfl ⟨(Nat.le_of_ble_eq_true rfl), (Nat.le_of_ble_eq_true rfl)⟩ (Nat.le_of_ble_eq_true rfl) ⟨(Nat.le_of_ble_eq_true rfl), (Nat.le_of_ble_eq_true rfl)⟩ dX3_givenBy_26 ?_
      exact tw_iretR hO dX3_givenBy_29 h
    · replace h := tw_ifp cc h
      refine tw_sub [] rfl ?_
      exact wX3_givenBy_b18 hO h
theorem cfX1_charactersIn : tw_CF yX1_charactersIn cX1_charactersIn 7 (some .int) 1 := ⟨tw_w391, tw_w53, by decide +kernel, by decide +kernel, by decide +kernel⟩
set_option maxRecDepth 100000 in
set_option maxHeartbeats 4000000 in
theorem wX1_charactersIn_b60 (hO : tw_O p s m args meth c cX1_charactersIn RX1 7 (some .int) G) {σ : tw_St} {y2 : Int64} {x4 : Int32} {q : Int32} (h : fX1_charactersIn_b60 σ y2 x4 = some q) : tw_X p l e rmX1_charactersIn s m args below meth c 7 G σ 0 0 (tw_Q below args s G 0 0 (some (.int q)) σ) 60 [(2, .long y2), (4, .int x4)] [] := by
  unfold fX1_charactersIn_b60 at h
  refine tw_lload_n 0 hO dX1_charactersIn_60 rfl rfl ?_
  refine tw_lconst (v := 0) hO dX1_charactersIn_61 (by decide) ?_
  refine tw_lcmp hO dX1_charactersIn_62 ?_
  refine tw_if_ne (tgt := 71) hO dX1_charactersIn_63 (by decide) (fun cc => ?_) (fun cc => ?_)
  · replace h := tw_ifn cc h
    refine tw_iconst (v := 0) hO dX1_charactersIn_71 (by decide) ?_
    exact tw_iretR hO dX1_charactersIn_72 h
  · replace h := tw_ifp cc h
    refine tw_iload 1 hO dX1_charactersIn_66 rfl ?_
    refine tw_goto (tgt := 72) hO dX1_charactersIn_68 (by decide) ?_
    exact tw_iretR hO dX1_charactersIn_72 h
set_option maxRecDepth 100000 in
set_option maxHeartbeats 4000000 in
theorem wX1_charactersIn_h5 (hO : tw_O p s m args meth c cX1_charactersIn RX1 7 (some .int) G) {k5 : (tw_St → Int64 → Int32 → Option (Int32))} (hk5 : ∀ (σ : tw_St) (y2 : Int64) (x4 : Int32) (q : Int32), k5 σ y2 x4 = some q → tw_X p l e rmX1_charactersIn s m args below meth c 7 G σ 0 0 (tw_Q below args s G 0 0 (some (.int q)) σ) 5 [(2, .long y2), (4, .int x4)] []) {σ : tw_St} {y2 : Int64} {x4 : Int32} {q : Int32} (h : fX1_charactersIn_h5 k5 σ y2 x4 = some q) : tw_X p l e rmX1_charactersIn s m args below meth c 7 G σ 0 0 (tw_Q below args s G 0 0 (some (.int q)) σ) 5 [(2, .long y2), (4, .int x4)] [] := by
  unfold fX1_charactersIn_h5 at h
  refine tw_iload 1 hO dX1_charactersIn_5 rfl ?_
  refine tw_bipush (v := 8) hO dX1_charactersIn_7 (by decide) ?_
  refine tw_icmp_ge (tgt := 60) hO dX1_charactersIn_9 (by decide) (fun cc => ?_) (fun cc => ?_)
  · replace h := tw_ifp cc h
    exact wX1_charactersIn_b60 hO h
  · replace h := tw_ifn cc h
    refine tw_lload_n 0 hO dX1_charactersIn_12 rfl rfl ?_
    refine tw_ldc2 hO tw_w392 dX1_charactersIn_13 ?_
    refine tw_land hO dX1_charactersIn_16 ?_
    refine tw_lconst (v := 0) hO dX1_charactersIn_17 (by decide) ?_
    refine tw_lcmp hO dX1_charactersIn_18 ?_
    refine tw_if_eq (tgt := 60) hO dX1_charactersIn_19 (by decide) (fun cc => ?_) (fun cc => ?_)
    · replace h := tw_ifp cc h
      exact wX1_charactersIn_b60 hO h
    · replace h := tw_ifn cc h
      refine tw_lload_n 0 hO dX1_charactersIn_22 rfl rfl ?_
      refine tw_ldc2 hO tw_w392 dX1_charactersIn_23 ?_
      refine tw_land hO dX1_charactersIn_26 ?_
      refine tw_lstore (lv' := [(5, .long (y2 &&& 255)), (2, .long y2), (4, .int x4)]) hO dX1_charactersIn_27 (by decide) rfl ?_
      refine tw_lload 0 hO dX1_charactersIn_29 rfl ?_
      refine tw_ldc2 hO tw_w393 dX1_charactersIn_31 ?_
      refine tw_lcmp hO dX1_charactersIn_34 ?_
      refine tw_if_lt (tgt := 47) hO dX1_charactersIn_35 (by decide) (fun cc => ?_) (fun cc => ?_)
      · replace h := tw_ifp cc h
        refine tw_iconst (v := 0) hO dX1_charactersIn_47 (by decide) ?_
        exact tw_iretR hO dX1_charactersIn_48 h
      · replace h := tw_ifn cc h
        refine tw_lload 0 hO dX1_charactersIn_38 rfl ?_
        refine tw_ldc2 hO tw_w394 dX1_charactersIn_40 ?_
        refine tw_lcmp hO dX1_charactersIn_43 ?_
        refine tw_if_le (tgt := 49) hO dX1_charactersIn_44 (by decide) (fun cc => ?_) (fun cc => ?_)
        · replace h := tw_ifp cc h
          refine tw_lload_n 1 hO dX1_charactersIn_49 rfl rfl ?_
          refine tw_bipush (v := 8) hO dX1_charactersIn_50 (by decide) ?_
          refine tw_lushr hO dX1_charactersIn_52 ?_
          refine tw_lstore_n (lv' := [(2, .long ((y2.toUInt64 >>> ((8 : Int32).toInt64.toUInt64 &&& Int64.toUInt64 63)).toInt64)), (5, .long (y2 &&& 255)), (4, .int x4)]) hO dX1_charactersIn_53 rfl (by decide) rfl ?_
          refine tw_iinc (q := 2) (v := (x4 + 1)) (lv' := [(4, .int (x4 + 1)), (2, .long ((y2.toUInt64 >>> ((8 : Int32).toInt64.toUInt64 &&& Int64.toUInt64 63)).toInt64)), (5, .long (y2 &&& 255))]) hO dX1_charactersIn_54 rfl rfl (by decide) rfl ?_
          refine tw_goto (tgt := 5) hO dX1_charactersIn_57 (by decide) ?_
          refine tw_sub [1, 0] rfl ?_
          exact hk5 _ _ _ _ h
        · replace h := tw_ifn cc h
          refine tw_iconst (v := 0) hO dX1_charactersIn_47 (by decide) ?_
          exact tw_iretR hO dX1_charactersIn_48 h
set_option maxRecDepth 100000 in
set_option maxHeartbeats 4000000 in
theorem wX1_charactersIn_l5 (hO : tw_O p s m args meth c cX1_charactersIn RX1 7 (some .int) G) : ∀ (n : Nat) (σ : tw_St) (y2 : Int64) (x4 : Int32) (q : Int32), fX1_charactersIn_l5 n σ y2 x4 = some q → tw_X p l e rmX1_charactersIn s m args below meth c 7 G σ 0 0 (tw_Q below args s G 0 0 (some (.int q)) σ) 5 [(2, .long y2), (4, .int x4)] [] := by
  intro n
  induction n with
  | zero => intro _ _ _ q h; cases (show (none : Option (Int32)) = some q from h)
  | succ n ih => intro _ _ _ q h; exact wX1_charactersIn_h5 hO ih h
set_option maxRecDepth 100000 in
set_option maxHeartbeats 4000000 in
theorem mX1_charactersIn (l : Launch) (G : tw_G) {σ : tw_St} {y0 : Int64} {q : Int32} (h : fX1_charactersIn σ y0 = some q) : tw_M l G yX1_charactersIn cX1_charactersIn 7 (some .int) rmX1_charactersIn 0 0 σ [.long y0] (some (.int q)) σ := by
  unfold fX1_charactersIn at h
  refine tw_M.of (by decide +kernel) (Nat.le_of_ble_eq_true rfl) (fun p e s m args below meth c hnm hO => ?_)
  have hO : tw_O p s m args meth c cX1_charactersIn RX1 7 (some .int) G := hO
  refine tw_lload_n 0 hO dX1_charactersIn_0 rfl rfl ?_
  refine tw_lstore_n (lv' := [(2, .long y0), (0, .long y0)]) hO dX1_charactersIn_1 rfl (by decide) rfl ?_
  refine tw_iconst (v := 0) hO dX1_charactersIn_2 (by decide) ?_
  refine tw_istore (lv' := [(4, .int 0), (2, .long y0), (0, .long y0)]) hO dX1_charactersIn_3 (by decide) rfl ?_
  refine tw_sub [1, 0] rfl ?_
  exact wX1_charactersIn_l5 hO _ _ _ _ _ h
theorem cfX1_append : tw_CF yX1_append cX1_append 5 none 2 := ⟨tw_w398, tw_w53, by decide +kernel, by decide +kernel, by decide +kernel⟩
theorem kX1_append {σ : tw_St} {a : Nat} {y1 : Int64} {x3 : Int32} {q : tw_St} (h : fX1_append σ a y1 x3 = some q) : tw_is σ 1 a = some () := by
  unfold fX1_append at h
  obtain ⟨_, e1, -⟩ := tw_bd h
  exact e1
set_option maxRecDepth 100000 in
set_option maxHeartbeats 4000000 in
theorem wX1_append_h5 (hO : tw_O p s m args meth c cX1_append RX1 5 none G) {k5 : (tw_St → Nat → Int64 → Int32 → Option (tw_St))} (hk5 : ∀ (σ : tw_St) (a0 : Nat) (y1 : Int64) (x4 : Int32) (q : tw_St), k5 σ a0 y1 x4 = some q → tw_X p l e rmX1_append s m args below meth c 5 G σ 0 0 (tw_Q below args s G 0 0 none q) 5 [(0, .ref a0), (1, .long y1), (4, .int x4)] []) {σ : tw_St} {a0 : Nat} {y1 : Int64} {x4 : Int32} {q : tw_St} (h : fX1_append_h5 k5 σ a0 y1 x4 = some q) : tw_X p l e rmX1_append s m args below meth c 5 G σ 0 0 (tw_Q below args s G 0 0 none q) 5 [(0, .ref a0), (1, .long y1), (4, .int x4)] [] := by
  unfold fX1_append_h5 at h
  refine tw_iload 2 hO dX1_append_5 rfl ?_
  refine tw_if_lt (tgt := 57) hO dX1_append_7 (by decide) (fun cc => ?_) (fun cc => ?_)
  · replace h := tw_ifp cc h
    exact tw_vret hO dX1_append_57 h
  · replace h := tw_ifn cc h
    refine tw_aload_n 0 hO dX1_append_10 rfl rfl ?_
    obtain ⟨v11, e11, h⟩ := tw_bd h
    refine tw_getI hO dX1_append_11 (t := 1) rfl 0 (by decide) rfl tw_w191 rfl e11 ?_
    refine tw_bipush (v := 80) hO dX1_append_14 (by decide) ?_
    refine tw_icmp_ge (tgt := 57) hO dX1_append_16 (by decide) (fun cc => ?_) (fun cc => ?_)
    · replace h := tw_ifp cc h
      exact tw_vret hO dX1_append_57 h
    · replace h := tw_ifn cc h
      refine tw_aload_n 0 hO dX1_append_19 rfl rfl ?_
      obtain ⟨v20, e20, h⟩ := tw_bd h
      refine tw_getP hO dX1_append_20 (t := 1) rfl 1 (by decide) rfl tw_w193 rfl e20 ?_
      refine tw_aload_n 0 hO dX1_append_23 rfl rfl ?_
      obtain ⟨v24, e24, h⟩ := tw_bd h
      refine tw_getI hO dX1_append_24 (t := 1) rfl 0 (by decide) rfl tw_w191 rfl e24 ?_
      refine tw_lload_n 1 hO dX1_append_27 rfl rfl ?_
      refine tw_bipush (v := 8) hO dX1_append_28 (by decide) ?_
      refine tw_iload 2 hO dX1_append_30 rfl ?_
      refine tw_imul hO dX1_append_32 ?_
      refine tw_lushr hO dX1_append_33 ?_
      refine tw_ldc2 hO tw_w392 dX1_append_34 ?_
      refine tw_land hO dX1_append_37 ?_
      refine tw_l2i hO dX1_append_38 ?_
      refine tw_i2c hO dX1_append_39 ?_
      obtain ⟨_, hz40, h⟩ := tw_bd h
      obtain ⟨σ40, e40, h⟩ := tw_bd h
      refine tw_cast hO dX1_append_40 hz40 e40 ?_
      refine tw_aload_n 0 hO dX1_append_41 rfl rfl ?_
      refine tw_dup hO dX1_append_42 rfl ?_
      obtain ⟨v43, e43, h⟩ := tw_bd h
      refine tw_getI hO dX1_append_43 (t := 1) rfl 0 (by decide) rfl tw_w191 rfl e43 ?_
      refine tw_iconst (v := 1) hO dX1_append_46 (by decide) ?_
      refine tw_iadd hO dX1_append_47 ?_
      obtain ⟨σ48, e48, h⟩ := tw_bd h
      refine tw_putI hO dX1_append_48 (t := 1) rfl 0 (by decide) rfl tw_w191 rfl rfl ⟨rfl, rfl⟩ e48 ?_
      refine tw_iinc (q := 2) (v := (x4 + (-1))) (lv' := [(4, .int (x4 + (-1))), (0, .ref a0), (1, .long y1)]) hO dX1_append_51 rfl rfl (by decide) rfl ?_
      refine tw_goto (tgt := 5) hO dX1_append_54 (by decide) ?_
      refine tw_sub [1, 2, 0] rfl ?_
      exact hk5 _ _ _ _ _ h
set_option maxRecDepth 100000 in
set_option maxHeartbeats 4000000 in
theorem wX1_append_l5 (hO : tw_O p s m args meth c cX1_append RX1 5 none G) : ∀ (n : Nat) (σ : tw_St) (a0 : Nat) (y1 : Int64) (x4 : Int32) (q : tw_St), fX1_append_l5 n σ a0 y1 x4 = some q → tw_X p l e rmX1_append s m args below meth c 5 G σ 0 0 (tw_Q below args s G 0 0 none q) 5 [(0, .ref a0), (1, .long y1), (4, .int x4)] [] := by
  intro n
  induction n with
  | zero => intro _ _ _ _ q h; cases (show (none : Option (tw_St)) = some q from h)
  | succ n ih => intro _ _ _ _ q h; exact wX1_append_h5 hO ih h
set_option maxRecDepth 100000 in
set_option maxHeartbeats 4000000 in
theorem mX1_append (l : Launch) (G : tw_G) {σ : tw_St} {a : Nat} {y1 : Int64} {x3 : Int32} {q : tw_St} (h : fX1_append σ a y1 x3 = some q) : tw_M l G yX1_append cX1_append 5 none rmX1_append 0 0 σ [.ref a, .long y1, .int x3] none q := by
  unfold fX1_append at h
  obtain ⟨_, -, h⟩ := tw_bd h
  refine tw_M.of (by decide +kernel) (Nat.le_of_ble_eq_true rfl) (fun p e s m args below meth c hnm hO => ?_)
  have hO : tw_O p s m args meth c cX1_append RX1 5 none G := hO
  refine tw_iload_n 2 hO dX1_append_0 rfl rfl ?_
  refine tw_iconst (v := 1) hO dX1_append_1 (by decide) ?_
  refine tw_isub hO dX1_append_2 ?_
  refine tw_istore (lv' := [(4, .int (x3 - 1)), (0, .ref a), (1, .long y1), (3, .int x3)]) hO dX1_append_3 (by decide) rfl ?_
  refine tw_sub [1, 2, 0] rfl ?_
  exact wX1_append_l5 hO _ _ _ _ _ _ h
theorem cfX1_charAt : tw_CF yX1_charAt cX1_charAt 2 (some .char) 1 := ⟨tw_w422, tw_w53, by decide +kernel, by decide +kernel, by decide +kernel⟩
theorem kX1_charAt {σ : tw_St} {a : Nat} {x1 : Int32} {q : Int32} (h : fX1_charAt σ a x1 = some q) : tw_is σ 1 a = some () := by
  unfold fX1_charAt at h
  obtain ⟨_, e1, -⟩ := tw_bd h
  exact e1
set_option maxRecDepth 100000 in
set_option maxHeartbeats 4000000 in
theorem mX1_charAt (l : Launch) (G : tw_G) {σ : tw_St} {a : Nat} {x1 : Int32} {q : Int32} (h : fX1_charAt σ a x1 = some q) : tw_M l G yX1_charAt cX1_charAt 2 (some .char) rmX1_charAt 0 0 σ [.ref a, .int x1] (some (.int q)) σ := by
  unfold fX1_charAt at h
  obtain ⟨_, -, h⟩ := tw_bd h
  refine tw_M.of (by decide +kernel) (Nat.le_of_ble_eq_true rfl) (fun p e s m args below meth c hnm hO => ?_)
  have hO : tw_O p s m args meth c cX1_charAt RX1 2 (some .char) G := hO
  refine tw_iload_n 1 hO dX1_charAt_0 rfl rfl ?_
  refine tw_if_lt (tgt := 27) hO dX1_charAt_1 (by decide) (fun cc => ?_) (fun cc => ?_)
  · replace h := tw_ifp cc h
    refine tw_iconst (v := 0) hO dX1_charAt_27 (by decide) ?_
    exact tw_zretR hO rfl dX1_charAt_28 h
  · replace h := tw_ifn cc h
    refine tw_iload_n 1 hO dX1_charAt_4 rfl rfl ?_
    refine tw_aload_n 0 hO dX1_charAt_5 rfl rfl ?_
    obtain ⟨v6, e6, h⟩ := tw_bd h
    refine tw_getI hO dX1_charAt_6 (t := 1) rfl 0 (by decide) rfl tw_w191 rfl e6 ?_
    refine tw_icmp_ge (tgt := 27) hO dX1_charAt_9 (by decide) (fun cc => ?_) (fun cc => ?_)
    · replace h := tw_ifp cc h
      refine tw_iconst (v := 0) hO dX1_charAt_27 (by decide) ?_
      exact tw_zretR hO rfl dX1_charAt_28 h
    · replace h := tw_ifn cc h
      refine tw_iload_n 1 hO dX1_charAt_12 rfl rfl ?_
      refine tw_bipush (v := 80) hO dX1_charAt_13 (by decide) ?_
      refine tw_icmp_ge (tgt := 27) hO dX1_charAt_15 (by decide) (fun cc => ?_) (fun cc => ?_)
      · replace h := tw_ifp cc h
        refine tw_iconst (v := 0) hO dX1_charAt_27 (by decide) ?_
        exact tw_zretR hO rfl dX1_charAt_28 h
      · replace h := tw_ifn cc h
        refine tw_aload_n 0 hO dX1_charAt_18 rfl rfl ?_
        obtain ⟨v19, e19, h⟩ := tw_bd h
        refine tw_getP hO dX1_charAt_19 (t := 1) rfl 1 (by decide) rfl tw_w193 rfl e19 ?_
        refine tw_iload_n 1 hO dX1_charAt_22 rfl rfl ?_
        obtain ⟨v23, e23, h⟩ := tw_bd h
        refine tw_cald hO dX1_charAt_23 e23 ?_
        refine tw_goto (tgt := 28) hO dX1_charAt_24 (by decide) ?_
        obtain ⟨_, hz, h⟩ := tw_bd h
        exact tw_zretR hO (tw_bc_sp hz).2.1 dX1_charAt_28 h
theorem cfX3_add : tw_CF yX3_add cX3_add 7 none 5 := ⟨tw_w438, tw_w50, by decide +kernel, by decide +kernel, by decide +kernel⟩
theorem kX3_add {σ : tw_St} {a : Nat} {x1 : Int32} {x2 : Int32} {x3 : Int32} {x4 : Int32} {x5 : Int32} {q : tw_St} (h : fX3_add σ a x1 x2 x3 x4 x5 = some q) : tw_is σ 3 a = some () := by
  unfold fX3_add at h
  obtain ⟨_, e1, -⟩ := tw_bd h
  exact e1
set_option maxRecDepth 100000 in
set_option maxHeartbeats 4000000 in
theorem mX3_add (l : Launch) (G : tw_G) {σ : tw_St} {a : Nat} {x1 : Int32} {x2 : Int32} {x3 : Int32} {x4 : Int32} {x5 : Int32} {q : tw_St} (h : fX3_add σ a x1 x2 x3 x4 x5 = some q) : tw_M l G yX3_add cX3_add 7 none rmX3_add 0 0 σ [.ref a, .int x1, .int x2, .int x3, .int x4, .int x5] none q := by
  unfold fX3_add at h
  obtain ⟨_, -, h⟩ := tw_bd h
  refine tw_M.of (by decide +kernel) (Nat.le_of_ble_eq_true rfl) (fun p e s m args below meth c hnm hO => ?_)
  have hO : tw_O p s m args meth c cX3_add RX3 7 none G := hO
  refine tw_aload_n 0 hO dX3_add_0 rfl rfl ?_
  obtain ⟨v1, e1, h⟩ := tw_bd h
  refine tw_getI hO dX3_add_1 (t := 3) rfl 0 (by decide) rfl tw_w81 rfl e1 ?_
  refine tw_if_lt (tgt := 16) hO dX3_add_4 (by decide) (fun cc => ?_) (fun cc => ?_)
  · replace h := tw_ifp cc h
    exact tw_vret hO dX3_add_16 h
  · replace h := tw_ifn cc h
    refine tw_aload_n 0 hO dX3_add_7 rfl rfl ?_
    obtain ⟨v8, e8, h⟩ := tw_bd h
    refine tw_getI hO dX3_add_8 (t := 3) rfl 0 (by decide) rfl tw_w81 rfl e8 ?_
    refine tw_bipush (v := 12) hO dX3_add_11 (by decide) ?_
    refine tw_icmp_lt (tgt := 17) hO dX3_add_13 (by decide) (fun cc => ?_) (fun cc => ?_)
    · replace h := tw_ifp cc h
      refine tw_aload_n 0 hO dX3_add_17 rfl rfl ?_
      obtain ⟨v18, e18, h⟩ := tw_bd h
      refine tw_getI hO dX3_add_18 (t := 3) rfl 0 (by decide) rfl tw_w81 rfl e18 ?_
      refine tw_iconst (v := 5) hO dX3_add_21 (by decide) ?_
      refine tw_imul hO dX3_add_22 ?_
      refine tw_istore (lv' := [(6, .int (v18 * 5)), (0, .ref a), (1, .int x1), (2, .int x2), (3, .int x3), (4, .int x4), (5, .int x5)]) hO dX3_add_23 (by decide) rfl ?_
      refine tw_aload_n 1 hO dX3_add_25 rfl rfl ?_
      obtain ⟨v26, e26, h⟩ := tw_bd h
      refine tw_getP hO dX3_add_26 (t := 3) rfl 1 (by decide) rfl tw_w84 rfl e26 ?_
      refine tw_iload 0 hO dX3_add_29 rfl ?_
      refine tw_iconst (v := 0) hO dX3_add_31 (by decide) ?_
      refine tw_iadd hO dX3_add_32 ?_
      refine tw_iload_n 2 hO dX3_add_33 rfl rfl ?_
      obtain ⟨σ34, e34, h⟩ := tw_bd h
      refine tw_iast hO dX3_add_34 e34 ?_
      refine tw_aload_n 1 hO dX3_add_35 rfl rfl ?_
      obtain ⟨v36, e36, h⟩ := tw_bd h
      refine tw_getP hO dX3_add_36 (t := 3) rfl 1 (by decide) rfl tw_w84 rfl e36 ?_
      refine tw_iload 0 hO dX3_add_39 rfl ?_
      refine tw_iconst (v := 1) hO dX3_add_41 (by decide) ?_
      refine tw_iadd hO dX3_add_42 ?_
      refine tw_iload_n 3 hO dX3_add_43 rfl rfl ?_
      obtain ⟨σ44, e44, h⟩ := tw_bd h
      refine tw_iast hO dX3_add_44 e44 ?_
      refine tw_aload_n 1 hO dX3_add_45 rfl rfl ?_
      obtain ⟨v46, e46, h⟩ := tw_bd h
      refine tw_getP hO dX3_add_46 (t := 3) rfl 1 (by decide) rfl tw_w84 rfl e46 ?_
      refine tw_iload 0 hO dX3_add_49 rfl ?_
      refine tw_iconst (v := 2) hO dX3_add_51 (by decide) ?_
      refine tw_iadd hO dX3_add_52 ?_
      refine tw_iload_n 4 hO dX3_add_53 rfl rfl ?_
      obtain ⟨σ54, e54, h⟩ := tw_bd h
      refine tw_iast hO dX3_add_54 e54 ?_
      refine tw_aload_n 1 hO dX3_add_55 rfl rfl ?_
      obtain ⟨v56, e56, h⟩ := tw_bd h
      refine tw_getP hO dX3_add_56 (t := 3) rfl 1 (by decide) rfl tw_w84 rfl e56 ?_
      refine tw_iload 0 hO dX3_add_59 rfl ?_
      refine tw_iconst (v := 3) hO dX3_add_61 (by decide) ?_
      refine tw_iadd hO dX3_add_62 ?_
      refine tw_iload 5 hO dX3_add_63 rfl ?_
      obtain ⟨σ65, e65, h⟩ := tw_bd h
      refine tw_iast hO dX3_add_65 e65 ?_
      refine tw_aload_n 1 hO dX3_add_66 rfl rfl ?_
      obtain ⟨v67, e67, h⟩ := tw_bd h
      refine tw_getP hO dX3_add_67 (t := 3) rfl 1 (by decide) rfl tw_w84 rfl e67 ?_
      refine tw_iload 0 hO dX3_add_70 rfl ?_
      refine tw_iconst (v := 4) hO dX3_add_72 (by decide) ?_
      refine tw_iadd hO dX3_add_73 ?_
      refine tw_iload 6 hO dX3_add_74 rfl ?_
      obtain ⟨σ76, e76, h⟩ := tw_bd h
      refine tw_iast hO dX3_add_76 e76 ?_
      refine tw_aload_n 1 hO dX3_add_77 rfl rfl ?_
      refine tw_dup hO dX3_add_78 rfl ?_
      obtain ⟨v79, e79, h⟩ := tw_bd h
      refine tw_getI hO dX3_add_79 (t := 3) rfl 0 (by decide) rfl tw_w81 rfl e79 ?_
      refine tw_iconst (v := 1) hO dX3_add_82 (by decide) ?_
      refine tw_iadd hO dX3_add_83 ?_
      obtain ⟨σ84, e84, h⟩ := tw_bd h
      refine tw_putI hO dX3_add_84 (t := 3) rfl 0 (by decide) rfl tw_w81 rfl rfl ⟨rfl, rfl⟩ e84 ?_
      exact tw_vret hO dX3_add_87 h
    · replace h := tw_ifn cc h
      exact tw_vret hO dX3_add_16 h
theorem cfX3_mayMove : tw_CF yX3_mayMove cX3_mayMove 3 (some .boolean) 1 := ⟨tw_w558, tw_w50, by decide +kernel, by decide +kernel, by decide +kernel⟩
theorem kX3_mayMove {σ : tw_St} {a : Nat} {x1 : Int32} {q : Int32} (h : fX3_mayMove σ a x1 = some q) : tw_is σ 3 a = some () := by
  unfold fX3_mayMove at h
  obtain ⟨_, e1, -⟩ := tw_bd h
  exact e1
set_option maxRecDepth 100000 in
set_option maxHeartbeats 4000000 in
theorem wX3_mayMove_b46 (hO : tw_O p s m args meth c cX3_mayMove RX3 3 (some .boolean) G) {k15 : (tw_St → Nat → Int32 → Int32 → Option (Int32))} (hk15 : ∀ (σ : tw_St) (a0 : Nat) (x1 : Int32) (x2 : Int32) (q : Int32), k15 σ a0 x1 x2 = some q → tw_X p l e rmX3_mayMove s m args below meth c 3 G σ 0 0 (tw_Q below args s G 0 0 (some (.int q)) σ) 15 [(0, .ref a0), (1, .int x1), (2, .int x2)] []) {σ : tw_St} {a0 : Nat} {x1 : Int32} {x2 : Int32} {q : Int32} (h : fX3_mayMove_b46 k15 σ a0 x1 x2 = some q) : tw_X p l e rmX3_mayMove s m args below meth c 3 G σ 0 0 (tw_Q below args s G 0 0 (some (.int q)) σ) 46 [(0, .ref a0), (1, .int x1), (2, .int x2)] [] := by
  unfold fX3_mayMove_b46 at h
  refine tw_iinc (q := 2) (v := (x2 + 1)) (lv' := [(2, .int (x2 + 1)), (0, .ref a0), (1, .int x1)]) hO dX3_mayMove_46 rfl rfl (by decide) rfl ?_
  refine tw_goto (tgt := 15) hO dX3_mayMove_49 (by decide) ?_
  refine tw_sub [1, 2, 0] rfl ?_
  exact hk15 _ _ _ _ _ h
set_option maxRecDepth 100000 in
set_option maxHeartbeats 4000000 in
theorem wX3_mayMove_h15 (hO : tw_O p s m args meth c cX3_mayMove RX3 3 (some .boolean) G) {k15 : (tw_St → Nat → Int32 → Int32 → Option (Int32))} (hk15 : ∀ (σ : tw_St) (a0 : Nat) (x1 : Int32) (x2 : Int32) (q : Int32), k15 σ a0 x1 x2 = some q → tw_X p l e rmX3_mayMove s m args below meth c 3 G σ 0 0 (tw_Q below args s G 0 0 (some (.int q)) σ) 15 [(0, .ref a0), (1, .int x1), (2, .int x2)] []) {σ : tw_St} {a0 : Nat} {x1 : Int32} {x2 : Int32} {q : Int32} (h : fX3_mayMove_h15 k15 σ a0 x1 x2 = some q) : tw_X p l e rmX3_mayMove s m args below meth c 3 G σ 0 0 (tw_Q below args s G 0 0 (some (.int q)) σ) 15 [(0, .ref a0), (1, .int x1), (2, .int x2)] [] := by
  unfold fX3_mayMove_h15 at h
  refine tw_iload_n 2 hO dX3_mayMove_15 rfl rfl ?_
  refine tw_aload_n 0 hO dX3_mayMove_16 rfl rfl ?_
  obtain ⟨v17, e17, h⟩ := tw_bd h
  refine tw_getI hO dX3_mayMove_17 (t := 3) rfl 0 (by decide) rfl tw_w81 rfl e17 ?_
  refine tw_icmp_ge (tgt := 52) hO dX3_mayMove_20 (by decide) (fun cc => ?_) (fun cc => ?_)
  · replace h := tw_ifp cc h
    refine tw_iconst (v := 1) hO dX3_mayMove_52 (by decide) ?_
    exact tw_zretR hO rfl dX3_mayMove_53 h
  · replace h := tw_ifn cc h
    refine tw_aload_n 0 hO dX3_mayMove_23 rfl rfl ?_
    refine tw_iload_n 2 hO dX3_mayMove_24 rfl rfl ?_
    refine tw_iconst (v := 0) hO dX3_mayMove_25 (by decide) ?_
    obtain ⟨v26, e26, h⟩ := tw_bd h
    refine tw_cVi hO (mX3_told l G e26) cfX3_told (t := 3) rfl (kX3_told e26) tw_w360 tw_w314 tw_w315 rfl rfl rfl rfl ⟨(Nat.le_of_ble_eq_true rfl), (Nat.le_of_ble_eq_true rfl)⟩ (Nat.le_of_ble_eq_true rfl) ⟨(Nat.le_of_ble_eq_true rfl), (Nat.le_of_ble_eq_true rfl)⟩ dX3_mayMove_26 ?_
    refine tw_bipush (v := 6) hO dX3_mayMove_29 (by decide) ?_
    refine tw_icmp_ne (tgt := 46) hO dX3_mayMove_31 (by decide) (fun cc => ?_) (fun cc => ?_)
    · replace h := tw_ifn cc h
      exact wX3_mayMove_b46 hO hk15 h
    · replace h := tw_ifp cc h
      refine tw_aload_n 0 hO dX3_mayMove_34 rfl rfl ?_
      refine tw_iload_n 2 hO dX3_mayMove_35 rfl rfl ?_
      refine tw_iconst (v := 4) hO dX3_mayMove_36 (by decide) ?_
      obtain ⟨v37, e37, h⟩ := tw_bd h
      refine tw_cVi hO (mX3_told l G e37) cfX3_told (t := 3) rfl (kX3_told e37) tw_w360 tw_w314 tw_w315 rfl rfl rfl rfl ⟨(Nat.le_of_ble_eq_true rfl), (Nat.le_of_ble_eq_true rfl)⟩ (Nat.le_of_ble_eq_true rfl) ⟨(Nat.le_of_ble_eq_true rfl), (Nat.le_of_ble_eq_true rfl)⟩ dX3_mayMove_37 ?_
      refine tw_iload_n 1 hO dX3_mayMove_40 rfl rfl ?_
      refine tw_icmp_ne (tgt := 46) hO dX3_mayMove_41 (by decide) (fun cc => ?_) (fun cc => ?_)
      · replace h := tw_ifn cc h
        exact wX3_mayMove_b46 hO hk15 h
      · replace h := tw_ifp cc h
        refine tw_iconst (v := 0) hO dX3_mayMove_44 (by decide) ?_
        exact tw_zretR hO rfl dX3_mayMove_45 h
set_option maxRecDepth 100000 in
set_option maxHeartbeats 4000000 in
theorem wX3_mayMove_l15 (hO : tw_O p s m args meth c cX3_mayMove RX3 3 (some .boolean) G) : ∀ (n : Nat) (σ : tw_St) (a0 : Nat) (x1 : Int32) (x2 : Int32) (q : Int32), fX3_mayMove_l15 n σ a0 x1 x2 = some q → tw_X p l e rmX3_mayMove s m args below meth c 3 G σ 0 0 (tw_Q below args s G 0 0 (some (.int q)) σ) 15 [(0, .ref a0), (1, .int x1), (2, .int x2)] [] := by
  intro n
  induction n with
  | zero => intro _ _ _ _ q h; cases (show (none : Option (Int32)) = some q from h)
  | succ n ih => intro _ _ _ _ q h; exact wX3_mayMove_h15 hO ih h
set_option maxRecDepth 100000 in
set_option maxHeartbeats 4000000 in
theorem mX3_mayMove (l : Launch) (G : tw_G) {σ : tw_St} {a : Nat} {x1 : Int32} {q : Int32} (h : fX3_mayMove σ a x1 = some q) : tw_M l G yX3_mayMove cX3_mayMove 3 (some .boolean) rmX3_mayMove 0 0 σ [.ref a, .int x1] (some (.int q)) σ := by
  unfold fX3_mayMove at h
  obtain ⟨_, -, h⟩ := tw_bd h
  refine tw_M.of (by decide +kernel) (Nat.le_of_ble_eq_true rfl) (fun p e s m args below meth c hnm hO => ?_)
  have hO : tw_O p s m args meth c cX3_mayMove RX3 3 (some .boolean) G := hO
  refine tw_aload_n 0 hO dX3_mayMove_0 rfl rfl ?_
  refine tw_iload_n 1 hO dX3_mayMove_1 rfl rfl ?_
  refine tw_iconst (v := 0) hO dX3_mayMove_2 (by decide) ?_
  obtain ⟨v3, e3, h⟩ := tw_bd h
  refine tw_cVi hO (mX3_told l G e3) cfX3_told (t := 3) rfl (kX3_told e3) tw_w360 tw_w314 tw_w315 rfl rfl rfl rfl ⟨(Nat.le_of_ble_eq_true rfl), (Nat.le_of_ble_eq_true rfl)⟩ (Nat.le_of_ble_eq_true rfl) ⟨(Nat.le_of_ble_eq_true rfl), (Nat.le_of_ble_eq_true rfl)⟩ dX3_mayMove_3 ?_
  refine tw_bipush (v := 6) hO dX3_mayMove_6 (by decide) ?_
  refine tw_icmp_ne (tgt := 13) hO dX3_mayMove_8 (by decide) (fun cc => ?_) (fun cc => ?_)
  · replace h := tw_ifn cc h
    refine tw_iconst (v := 0) hO dX3_mayMove_13 (by decide) ?_
    refine tw_istore_n (lv' := [(2, .int 0), (0, .ref a), (1, .int x1)]) hO dX3_mayMove_14 rfl (by decide) rfl ?_
    refine tw_sub [1, 2, 0] rfl ?_
    exact wX3_mayMove_l15 hO _ _ _ _ _ _ h
  · replace h := tw_ifp cc h
    refine tw_iconst (v := 0) hO dX3_mayMove_11 (by decide) ?_
    exact tw_zretR hO rfl dX3_mayMove_12 h
theorem cfX3_exchangeWithNext : tw_CF yX3_exchangeWithNext cX3_exchangeWithNext 5 none 1 := ⟨tw_w566, tw_w50, by decide +kernel, by decide +kernel, by decide +kernel⟩
theorem kX3_exchangeWithNext {σ : tw_St} {a : Nat} {x1 : Int32} {q : tw_St} (h : fX3_exchangeWithNext σ a x1 = some q) : tw_is σ 3 a = some () := by
  unfold fX3_exchangeWithNext at h
  obtain ⟨_, e1, -⟩ := tw_bd h
  exact e1
set_option maxRecDepth 100000 in
set_option maxHeartbeats 4000000 in
theorem wX3_exchangeWithNext_h21 (hO : tw_O p s m args meth c cX3_exchangeWithNext RX3 5 none G) {k21 : (tw_St → Nat → Int32 → Int32 → Option (tw_St))} (hk21 : ∀ (σ : tw_St) (a0 : Nat) (x2 : Int32) (x3 : Int32) (q : tw_St), k21 σ a0 x2 x3 = some q → tw_X p l e rmX3_exchangeWithNext s m args below meth c 5 G σ 0 0 (tw_Q below args s G 0 0 none q) 21 [(0, .ref a0), (2, .int x2), (3, .int x3)] []) {σ : tw_St} {a0 : Nat} {x2 : Int32} {x3 : Int32} {q : tw_St} (h : fX3_exchangeWithNext_h21 k21 σ a0 x2 x3 = some q) : tw_X p l e rmX3_exchangeWithNext s m args below meth c 5 G σ 0 0 (tw_Q below args s G 0 0 none q) 21 [(0, .ref a0), (2, .int x2), (3, .int x3)] [] := by
  unfold fX3_exchangeWithNext_h21 at h
  refine tw_iload_n 2 hO dX3_exchangeWithNext_21 rfl rfl ?_
  refine tw_iconst (v := 5) hO dX3_exchangeWithNext_22 (by decide) ?_
  refine tw_icmp_ge (tgt := 72) hO dX3_exchangeWithNext_23 (by decide) (fun cc => ?_) (fun cc => ?_)
  · replace h := tw_ifp cc h
    exact tw_vret hO dX3_exchangeWithNext_72 h
  · replace h := tw_ifn cc h
    refine tw_aload_n 0 hO dX3_exchangeWithNext_26 rfl rfl ?_
    obtain ⟨v27, e27, h⟩ := tw_bd h
    refine tw_getP hO dX3_exchangeWithNext_27 (t := 3) rfl 1 (by decide) rfl tw_w84 rfl e27 ?_
    refine tw_iload_n 1 hO dX3_exchangeWithNext_30 rfl rfl ?_
    refine tw_iload_n 2 hO dX3_exchangeWithNext_31 rfl rfl ?_
    refine tw_iadd hO dX3_exchangeWithNext_32 ?_
    obtain ⟨v33, e33, h⟩ := tw_bd h
    refine tw_iald hO dX3_exchangeWithNext_33 e33 ?_
    refine tw_istore (lv' := [(4, .int v33), (0, .ref a0), (2, .int x2), (3, .int x3)]) hO dX3_exchangeWithNext_34 (by decide) rfl ?_
    refine tw_aload_n 1 hO dX3_exchangeWithNext_36 rfl rfl ?_
    obtain ⟨v37, e37, h⟩ := tw_bd h
    refine tw_getP hO dX3_exchangeWithNext_37 (t := 3) rfl 1 (by decide) rfl tw_w84 rfl e37 ?_
    refine tw_iload_n 2 hO dX3_exchangeWithNext_40 rfl rfl ?_
    refine tw_iload_n 3 hO dX3_exchangeWithNext_41 rfl rfl ?_
    refine tw_iadd hO dX3_exchangeWithNext_42 ?_
    refine tw_aload_n 1 hO dX3_exchangeWithNext_43 rfl rfl ?_
    obtain ⟨v44, e44, h⟩ := tw_bd h
    refine tw_getP hO dX3_exchangeWithNext_44 (t := 3) rfl 1 (by decide) rfl tw_w84 rfl e44 ?_
    refine tw_iload_n 2 hO dX3_exchangeWithNext_47 rfl rfl ?_
    refine tw_iconst (v := 5) hO dX3_exchangeWithNext_48 (by decide) ?_
    refine tw_iadd hO dX3_exchangeWithNext_49 ?_
    refine tw_iload_n 3 hO dX3_exchangeWithNext_50 rfl rfl ?_
    refine tw_iadd hO dX3_exchangeWithNext_51 ?_
    obtain ⟨v52, e52, h⟩ := tw_bd h
    refine tw_iald hO dX3_exchangeWithNext_52 e52 ?_
    obtain ⟨σ53, e53, h⟩ := tw_bd h
    refine tw_iast hO dX3_exchangeWithNext_53 e53 ?_
    refine tw_aload_n 1 hO dX3_exchangeWithNext_54 rfl rfl ?_
    obtain ⟨v55, e55, h⟩ := tw_bd h
    refine tw_getP hO dX3_exchangeWithNext_55 (t := 3) rfl 1 (by decide) rfl tw_w84 rfl e55 ?_
    refine tw_iload_n 2 hO dX3_exchangeWithNext_58 rfl rfl ?_
    refine tw_iconst (v := 5) hO dX3_exchangeWithNext_59 (by decide) ?_
    refine tw_iadd hO dX3_exchangeWithNext_60 ?_
    refine tw_iload_n 3 hO dX3_exchangeWithNext_61 rfl rfl ?_
    refine tw_iadd hO dX3_exchangeWithNext_62 ?_
    refine tw_iload 0 hO dX3_exchangeWithNext_63 rfl ?_
    obtain ⟨σ65, e65, h⟩ := tw_bd h
    refine tw_iast hO dX3_exchangeWithNext_65 e65 ?_
    refine tw_iinc (q := 3) (v := (x3 + 1)) (lv' := [(3, .int (x3 + 1)), (4, .int v33), (0, .ref a0), (2, .int x2)]) hO dX3_exchangeWithNext_66 rfl rfl (by decide) rfl ?_
    refine tw_goto (tgt := 21) hO dX3_exchangeWithNext_69 (by decide) ?_
    refine tw_sub [2, 3, 0] rfl ?_
    exact hk21 _ _ _ _ _ h
set_option maxRecDepth 100000 in
set_option maxHeartbeats 4000000 in
theorem wX3_exchangeWithNext_l21 (hO : tw_O p s m args meth c cX3_exchangeWithNext RX3 5 none G) : ∀ (n : Nat) (σ : tw_St) (a0 : Nat) (x2 : Int32) (x3 : Int32) (q : tw_St), fX3_exchangeWithNext_l21 n σ a0 x2 x3 = some q → tw_X p l e rmX3_exchangeWithNext s m args below meth c 5 G σ 0 0 (tw_Q below args s G 0 0 none q) 21 [(0, .ref a0), (2, .int x2), (3, .int x3)] [] := by
  intro n
  induction n with
  | zero => intro _ _ _ _ q h; cases (show (none : Option (tw_St)) = some q from h)
  | succ n ih => intro _ _ _ _ q h; exact wX3_exchangeWithNext_h21 hO ih h
set_option maxRecDepth 100000 in
set_option maxHeartbeats 4000000 in
theorem mX3_exchangeWithNext (l : Launch) (G : tw_G) {σ : tw_St} {a : Nat} {x1 : Int32} {q : tw_St} (h : fX3_exchangeWithNext σ a x1 = some q) : tw_M l G yX3_exchangeWithNext cX3_exchangeWithNext 5 none rmX3_exchangeWithNext 0 0 σ [.ref a, .int x1] none q := by
  unfold fX3_exchangeWithNext at h
  obtain ⟨_, -, h⟩ := tw_bd h
  refine tw_M.of (by decide +kernel) (Nat.le_of_ble_eq_true rfl) (fun p e s m args below meth c hnm hO => ?_)
  have hO : tw_O p s m args meth c cX3_exchangeWithNext RX3 5 none G := hO
  refine tw_iload_n 1 hO dX3_exchangeWithNext_0 rfl rfl ?_
  refine tw_if_lt (tgt := 14) hO dX3_exchangeWithNext_1 (by decide) (fun cc => ?_) (fun cc => ?_)
  · replace h := tw_ifp cc h
    exact tw_vret hO dX3_exchangeWithNext_14 h
  · replace h := tw_ifn cc h
    refine tw_iload_n 1 hO dX3_exchangeWithNext_4 rfl rfl ?_
    refine tw_iconst (v := 1) hO dX3_exchangeWithNext_5 (by decide) ?_
    refine tw_iadd hO dX3_exchangeWithNext_6 ?_
    refine tw_aload_n 0 hO dX3_exchangeWithNext_7 rfl rfl ?_
    obtain ⟨v8, e8, h⟩ := tw_bd h
    refine tw_getI hO dX3_exchangeWithNext_8 (t := 3) rfl 0 (by decide) rfl tw_w81 rfl e8 ?_
    refine tw_icmp_lt (tgt := 15) hO dX3_exchangeWithNext_11 (by decide) (fun cc => ?_) (fun cc => ?_)
    · replace h := tw_ifp cc h
      refine tw_iload_n 1 hO dX3_exchangeWithNext_15 rfl rfl ?_
      refine tw_iconst (v := 5) hO dX3_exchangeWithNext_16 (by decide) ?_
      refine tw_imul hO dX3_exchangeWithNext_17 ?_
      refine tw_istore_n (lv' := [(2, .int (x1 * 5)), (0, .ref a), (1, .int x1)]) hO dX3_exchangeWithNext_18 rfl (by decide) rfl ?_
      refine tw_iconst (v := 0) hO dX3_exchangeWithNext_19 (by decide) ?_
      refine tw_istore_n (lv' := [(3, .int 0), (2, .int (x1 * 5)), (0, .ref a), (1, .int x1)]) hO dX3_exchangeWithNext_20 rfl (by decide) rfl ?_
      refine tw_sub [2, 1, 0] rfl ?_
      exact wX3_exchangeWithNext_l21 hO _ _ _ _ _ _ h
    · replace h := tw_ifn cc h
      exact tw_vret hO dX3_exchangeWithNext_14 h
end TW_05a_J9_X3_X1
