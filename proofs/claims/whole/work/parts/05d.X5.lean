section TW_05d_X5
variable {p : Program} {l : Launch} {e : Env} {s : State} {m : MethodId} {args : Array Value} {below : List Frame} {meth : Method} {c : Code} {G : tw_G}
theorem cfX5_init : tw_CF yX5_init cX5_init 2 none 1 := ⟨tw_w113, tw_w51, by decide +kernel, by decide +kernel, by decide +kernel⟩
theorem kX5_init {σ : tw_St} {a : Nat} {r1 : Nat} {q : tw_St} (h : fX5_init σ a r1 = some q) : tw_is σ 5 a = some () := by
  unfold fX5_init at h
  obtain ⟨_, e1, -⟩ := tw_bd h
  exact e1
set_option maxRecDepth 100000 in
set_option maxHeartbeats 4000000 in
theorem mX5_init (l : Launch) (G : tw_G) {σ : tw_St} {a : Nat} {r1 : Nat} {q : tw_St} (h : fX5_init σ a r1 = some q) : tw_M l G yX5_init cX5_init 2 none rmX5_init 24 670 σ [.ref a, .ref r1] none q := by
  unfold fX5_init at h
  obtain ⟨_, -, h⟩ := tw_bd h
  refine tw_M.of (by decide +kernel) (Nat.le_of_ble_eq_true rfl) (fun p e s m args below meth c hnm hO => ?_)
  have hO : tw_O p s m args meth c cX5_init RX5 2 none G := hO
  refine tw_aload_n 0 hO dX5_init_0 rfl rfl ?_
  refine tw_objI hO dX5_init_1 tw_w114 tw_w65 tw_w66 (Nat.le_of_ble_eq_true rfl) (Nat.le_of_ble_eq_true rfl) ?_
  refine tw_aload_n 0 hO dX5_init_4 rfl rfl ?_
  refine tw_iconst (v := 2) hO dX5_init_5 (by decide) ?_
  refine tw_newR (t := 26) (C := RX2) (N := 2) hO dX5_init_6 ⟨by decide, by decide⟩ rfl tw_w115 (tw_knA26 hO) (by decide) (by decide) (Nat.le_of_ble_eq_true rfl) (Nat.le_of_ble_eq_true rfl) (Nat.le_of_ble_eq_true rfl) ?_
  refine tw_dup hO dX5_init_9 rfl ?_
  refine tw_iconst (v := 0) hO dX5_init_10 (by decide) ?_
  refine tw_newO hO dX5_init_11 (t := 2) rfl tw_w115 tw_w117 tw_w52 (Nat.le_of_ble_eq_true rfl) (Nat.le_of_ble_eq_true rfl) ?_
  refine tw_dup hO dX5_init_14 rfl ?_
  obtain ⟨σ15, e15, h⟩ := tw_bd h
  refine tw_callIN hO (mX2_init l G e15) cfX2_init rfl (tw_knN2 hO) tw_w119 rfl rfl rfl rfl ⟨(Nat.le_of_ble_eq_true rfl), (Nat.le_of_ble_eq_true rfl)⟩ (Nat.le_of_ble_eq_true rfl) ⟨(Nat.le_of_ble_eq_true rfl), (Nat.le_of_ble_eq_true rfl)⟩ dX5_init_15 ?_
  obtain ⟨σ18, e18, h⟩ := tw_bd h
  refine tw_aast (tv := 2) hO dX5_init_18 (by decide) (by decide) rfl rfl e18 ?_
  refine tw_dup hO dX5_init_19 rfl ?_
  refine tw_iconst (v := 1) hO dX5_init_20 (by decide) ?_
  refine tw_newO hO dX5_init_21 (t := 2) rfl tw_w115 tw_w117 tw_w52 (Nat.le_of_ble_eq_true rfl) (Nat.le_of_ble_eq_true rfl) ?_
  refine tw_dup hO dX5_init_24 rfl ?_
  obtain ⟨σ25, e25, h⟩ := tw_bd h
  refine tw_callIN hO (mX2_init l G e25) cfX2_init rfl (tw_knN2 hO) tw_w119 rfl rfl rfl rfl ⟨(Nat.le_of_ble_eq_true rfl), (Nat.le_of_ble_eq_true rfl)⟩ (Nat.le_of_ble_eq_true rfl) ⟨(Nat.le_of_ble_eq_true rfl), (Nat.le_of_ble_eq_true rfl)⟩ dX5_init_25 ?_
  obtain ⟨σ28, e28, h⟩ := tw_bd h
  refine tw_aast (tv := 2) hO dX5_init_28 (by decide) (by decide) rfl rfl e28 ?_
  obtain ⟨σ29, e29, h⟩ := tw_bd h
  refine tw_putP hO hnm dX5_init_29 (t := 5) rfl 0 (by decide) rfl rfl tw_w141 rfl rfl ⟨rfl, rfl⟩ e29 ?_
  refine tw_aload_n 0 hO dX5_init_32 rfl rfl ?_
  refine tw_iconst (v := 2) hO dX5_init_33 (by decide) ?_
  refine tw_newA (t := 20) (N := 2) hO dX5_init_34 ⟨by decide, by decide⟩ rfl tw_w90 (by decide) (by decide) (Nat.le_of_ble_eq_true rfl) (Nat.le_of_ble_eq_true rfl) (Nat.le_of_ble_eq_true rfl) ?_
  obtain ⟨σ36, e36, h⟩ := tw_bd h
  refine tw_putP hO hnm dX5_init_36 (t := 5) rfl 1 (by decide) rfl rfl tw_w143 rfl rfl ⟨rfl, rfl⟩ e36 ?_
  refine tw_aload_n 0 hO dX5_init_39 rfl rfl ?_
  refine tw_iconst (v := 2) hO dX5_init_40 (by decide) ?_
  refine tw_newA (t := 20) (N := 2) hO dX5_init_41 ⟨by decide, by decide⟩ rfl tw_w90 (by decide) (by decide) (Nat.le_of_ble_eq_true rfl) (Nat.le_of_ble_eq_true rfl) (Nat.le_of_ble_eq_true rfl) ?_
  obtain ⟨σ43, e43, h⟩ := tw_bd h
  refine tw_putP hO hnm dX5_init_43 (t := 5) rfl 2 (by decide) rfl rfl tw_w145 rfl rfl ⟨rfl, rfl⟩ e43 ?_
  refine tw_aload_n 0 hO dX5_init_46 rfl rfl ?_
  refine tw_iconst (v := 2) hO dX5_init_47 (by decide) ?_
  refine tw_bipush (v := 100) hO dX5_init_48 (by decide) ?_
  refine tw_mna (N := 2) (K := 100) hO dX5_init_50 tw_w140 tw_w90 (by decide) (by decide) (by decide) (by decide) (Nat.le_of_ble_eq_true rfl) (Nat.le_of_ble_eq_true rfl) (Nat.le_of_ble_eq_true rfl) (Nat.le_of_ble_eq_true rfl) (Nat.le_of_ble_eq_true rfl) ?_
  obtain ⟨σ54, e54, h⟩ := tw_bd h
  refine tw_putP hO hnm dX5_init_54 (t := 5) rfl 3 (by decide) rfl rfl tw_w147 rfl rfl ⟨rfl, rfl⟩ e54 ?_
  refine tw_aload_n 0 hO dX5_init_57 rfl rfl ?_
  refine tw_iconst (v := 2) hO dX5_init_58 (by decide) ?_
  refine tw_bipush (v := 100) hO dX5_init_59 (by decide) ?_
  refine tw_mna (N := 2) (K := 100) hO dX5_init_61 tw_w140 tw_w90 (by decide) (by decide) (by decide) (by decide) (Nat.le_of_ble_eq_true rfl) (Nat.le_of_ble_eq_true rfl) (Nat.le_of_ble_eq_true rfl) (Nat.le_of_ble_eq_true rfl) (Nat.le_of_ble_eq_true rfl) ?_
  obtain ⟨σ65, e65, h⟩ := tw_bd h
  refine tw_putP hO hnm dX5_init_65 (t := 5) rfl 4 (by decide) rfl rfl tw_w149 rfl rfl ⟨rfl, rfl⟩ e65 ?_
  refine tw_aload_n 0 hO dX5_init_68 rfl rfl ?_
  refine tw_iconst (v := 2) hO dX5_init_69 (by decide) ?_
  refine tw_iconst (v := 5) hO dX5_init_70 (by decide) ?_
  refine tw_mna (N := 2) (K := 5) hO dX5_init_71 tw_w140 tw_w90 (by decide) (by decide) (by decide) (by decide) (Nat.le_of_ble_eq_true rfl) (Nat.le_of_ble_eq_true rfl) (Nat.le_of_ble_eq_true rfl) (Nat.le_of_ble_eq_true rfl) (Nat.le_of_ble_eq_true rfl) ?_
  obtain ⟨σ75, e75, h⟩ := tw_bd h
  refine tw_putP hO hnm dX5_init_75 (t := 5) rfl 5 (by decide) rfl rfl tw_w151 rfl rfl ⟨rfl, rfl⟩ e75 ?_
  refine tw_aload_n 0 hO dX5_init_78 rfl rfl ?_
  refine tw_iconst (v := 2) hO dX5_init_79 (by decide) ?_
  refine tw_newA (t := 20) (N := 2) hO dX5_init_80 ⟨by decide, by decide⟩ rfl tw_w90 (by decide) (by decide) (Nat.le_of_ble_eq_true rfl) (Nat.le_of_ble_eq_true rfl) (Nat.le_of_ble_eq_true rfl) ?_
  obtain ⟨σ82, e82, h⟩ := tw_bd h
  refine tw_putP hO hnm dX5_init_82 (t := 5) rfl 7 (by decide) rfl rfl tw_w154 rfl rfl ⟨rfl, rfl⟩ e82 ?_
  refine tw_aload_n 0 hO dX5_init_85 rfl rfl ?_
  refine tw_iconst (v := 2) hO dX5_init_86 (by decide) ?_
  refine tw_iconst (v := 4) hO dX5_init_87 (by decide) ?_
  refine tw_mna (N := 2) (K := 4) hO dX5_init_88 tw_w140 tw_w90 (by decide) (by decide) (by decide) (by decide) (Nat.le_of_ble_eq_true rfl) (Nat.le_of_ble_eq_true rfl) (Nat.le_of_ble_eq_true rfl) (Nat.le_of_ble_eq_true rfl) (Nat.le_of_ble_eq_true rfl) ?_
  obtain ⟨σ92, e92, h⟩ := tw_bd h
  refine tw_putP hO hnm dX5_init_92 (t := 5) rfl 8 (by decide) rfl rfl tw_w155 rfl rfl ⟨rfl, rfl⟩ e92 ?_
  refine tw_aload_n 0 hO dX5_init_95 rfl rfl ?_
  refine tw_iconst (v := 2) hO dX5_init_96 (by decide) ?_
  refine tw_newA (t := 20) (N := 2) hO dX5_init_97 ⟨by decide, by decide⟩ rfl tw_w90 (by decide) (by decide) (Nat.le_of_ble_eq_true rfl) (Nat.le_of_ble_eq_true rfl) (Nat.le_of_ble_eq_true rfl) ?_
  obtain ⟨σ99, e99, h⟩ := tw_bd h
  refine tw_putP hO hnm dX5_init_99 (t := 5) rfl 9 (by decide) rfl rfl tw_w156 rfl rfl ⟨rfl, rfl⟩ e99 ?_
  refine tw_aload_n 0 hO dX5_init_102 rfl rfl ?_
  refine tw_iconst (v := 2) hO dX5_init_103 (by decide) ?_
  refine tw_newA (t := 20) (N := 2) hO dX5_init_104 ⟨by decide, by decide⟩ rfl tw_w90 (by decide) (by decide) (Nat.le_of_ble_eq_true rfl) (Nat.le_of_ble_eq_true rfl) (Nat.le_of_ble_eq_true rfl) ?_
  obtain ⟨σ106, e106, h⟩ := tw_bd h
  refine tw_putP hO hnm dX5_init_106 (t := 5) rfl 10 (by decide) rfl rfl tw_w157 rfl rfl ⟨rfl, rfl⟩ e106 ?_
  refine tw_aload_n 0 hO dX5_init_109 rfl rfl ?_
  refine tw_aload_n 1 hO dX5_init_110 rfl rfl ?_
  obtain ⟨σ111, e111, h⟩ := tw_bd h
  refine tw_putP hO hnm dX5_init_111 (t := 5) rfl 6 (by decide) rfl rfl tw_w153 rfl rfl ⟨rfl, rfl⟩ e111 ?_
  refine tw_wide (Nat.le_of_ble_eq_true rfl : _ ≤ 24) (Nat.le_of_ble_eq_true rfl : _ ≤ 670) ?_
  exact tw_vret hO dX5_init_114 h
theorem cfX5_follow : tw_CF yX5_follow cX5_follow 2 none 0 := ⟨tw_w303, tw_w51, by decide +kernel, by decide +kernel, by decide +kernel⟩
theorem kX5_follow {σ : tw_St} {a : Nat} {q : tw_St} (h : fX5_follow σ a = some q) : tw_is σ 5 a = some () := by
  unfold fX5_follow at h
  obtain ⟨_, e1, -⟩ := tw_bd h
  exact e1
set_option maxRecDepth 100000 in
set_option maxHeartbeats 4000000 in
theorem wX5_follow_h2 (hO : tw_O p s m args meth c cX5_follow RX5 2 none G) {k2 : (tw_St → Nat → Int32 → Option (tw_St))} (hk2 : ∀ (σ : tw_St) (a0 : Nat) (x1 : Int32) (q : tw_St), k2 σ a0 x1 = some q → tw_X p l e rmX5_follow s m args below meth c 2 G σ 0 0 (tw_Q below args s G 0 0 none q) 2 [(0, .ref a0), (1, .int x1)] []) {σ : tw_St} {a0 : Nat} {x1 : Int32} {q : tw_St} (h : fX5_follow_h2 k2 σ a0 x1 = some q) : tw_X p l e rmX5_follow s m args below meth c 2 G σ 0 0 (tw_Q below args s G 0 0 none q) 2 [(0, .ref a0), (1, .int x1)] [] := by
  unfold fX5_follow_h2 at h
  refine tw_iload_n 1 hO dX5_follow_2 rfl rfl ?_
  refine tw_iconst (v := 2) hO dX5_follow_3 (by decide) ?_
  refine tw_icmp_ge (tgt := 40) hO dX5_follow_4 (by decide) (fun cc => ?_) (fun cc => ?_)
  · replace h := tw_ifp cc h
    exact tw_vret hO dX5_follow_40 h
  · replace h := tw_ifn cc h
    refine tw_aload_n 0 hO dX5_follow_7 rfl rfl ?_
    obtain ⟨v8, e8, h⟩ := tw_bd h
    refine tw_getP hO dX5_follow_8 (t := 5) rfl 0 (by decide) rfl tw_w141 rfl e8 ?_
    refine tw_iload_n 1 hO dX5_follow_11 rfl rfl ?_
    obtain ⟨v12, e12, h⟩ := tw_bd h
    refine tw_aald hO dX5_follow_12 (by decide) (by decide) e12 ?_
    refine tw_aload_n 0 hO dX5_follow_13 rfl rfl ?_
    obtain ⟨v14, e14, h⟩ := tw_bd h
    refine tw_getP hO dX5_follow_14 (t := 5) rfl 6 (by decide) rfl tw_w153 rfl e14 ?_
    obtain ⟨v17, e17, h⟩ := tw_bd h
    refine tw_getP hO dX5_follow_17 (t := 6) rfl 1 (by decide) rfl tw_w97 rfl e17 ?_
    refine tw_iload_n 1 hO dX5_follow_20 rfl rfl ?_
    obtain ⟨v21, e21, h⟩ := tw_bd h
    refine tw_aald hO dX5_follow_21 (by decide) (by decide) e21 ?_
    refine tw_aload_n 0 hO dX5_follow_22 rfl rfl ?_
    obtain ⟨v23, e23, h⟩ := tw_bd h
    refine tw_getP hO dX5_follow_23 (t := 5) rfl 6 (by decide) rfl tw_w153 rfl e23 ?_
    obtain ⟨v26, e26, h⟩ := tw_bd h
    refine tw_getP hO dX5_follow_26 (t := 6) rfl 2 (by decide) rfl tw_w100 rfl e26 ?_
    refine tw_iload_n 1 hO dX5_follow_29 rfl rfl ?_
    obtain ⟨v30, e30, h⟩ := tw_bd h
    refine tw_aald hO dX5_follow_30 (by decide) (by decide) e30 ?_
    obtain ⟨σ31, e31, h⟩ := tw_bd h
    refine tw_cVv hO (mX2_follow l G e31) cfX2_follow (t := 2) rfl (kX2_follow e31) tw_w304 tw_w305 tw_w306 rfl rfl rfl rfl ⟨(Nat.le_of_ble_eq_true rfl), (Nat.le_of_ble_eq_true rfl)⟩ (Nat.le_of_ble_eq_true rfl) ⟨(Nat.le_of_ble_eq_true rfl), (Nat.le_of_ble_eq_true rfl)⟩ dX5_follow_31 ?_
    refine tw_iinc (q := 1) (v := (x1 + 1)) (lv' := [(1, .int (x1 + 1)), (0, .ref a0)]) hO dX5_follow_34 rfl rfl (by decide) rfl ?_
    refine tw_goto (tgt := 2) hO dX5_follow_37 (by decide) ?_
    refine tw_sub [1, 0] rfl ?_
    exact hk2 _ _ _ _ h
set_option maxRecDepth 100000 in
set_option maxHeartbeats 4000000 in
theorem wX5_follow_l2 (hO : tw_O p s m args meth c cX5_follow RX5 2 none G) : ∀ (n : Nat) (σ : tw_St) (a0 : Nat) (x1 : Int32) (q : tw_St), fX5_follow_l2 n σ a0 x1 = some q → tw_X p l e rmX5_follow s m args below meth c 2 G σ 0 0 (tw_Q below args s G 0 0 none q) 2 [(0, .ref a0), (1, .int x1)] [] := by
  intro n
  induction n with
  | zero => intro _ _ _ q h; cases (show (none : Option (tw_St)) = some q from h)
  | succ n ih => intro _ _ _ q h; exact wX5_follow_h2 hO ih h
set_option maxRecDepth 100000 in
set_option maxHeartbeats 4000000 in
theorem mX5_follow (l : Launch) (G : tw_G) {σ : tw_St} {a : Nat} {q : tw_St} (h : fX5_follow σ a = some q) : tw_M l G yX5_follow cX5_follow 2 none rmX5_follow 0 0 σ [.ref a] none q := by
  unfold fX5_follow at h
  obtain ⟨_, -, h⟩ := tw_bd h
  refine tw_M.of (by decide +kernel) (Nat.le_of_ble_eq_true rfl) (fun p e s m args below meth c hnm hO => ?_)
  have hO : tw_O p s m args meth c cX5_follow RX5 2 none G := hO
  refine tw_iconst (v := 0) hO dX5_follow_0 (by decide) ?_
  refine tw_istore_n (lv' := [(1, .int 0), (0, .ref a)]) hO dX5_follow_1 rfl (by decide) rfl ?_
  refine tw_sub [1, 0] rfl ?_
  exact wX5_follow_l2 hO _ _ _ _ _ h
theorem cfX5_clear : tw_CF yX5_clear cX5_clear 3 none 0 := ⟨tw_w338, tw_w51, by decide +kernel, by decide +kernel, by decide +kernel⟩
theorem kX5_clear {σ : tw_St} {a : Nat} {q : tw_St} (h : fX5_clear σ a = some q) : tw_is σ 5 a = some () := by
  unfold fX5_clear at h
  obtain ⟨_, e1, -⟩ := tw_bd h
  exact e1
set_option maxRecDepth 100000 in
set_option maxHeartbeats 4000000 in
theorem wX5_clear_b85 (hO : tw_O p s m args meth c cX5_clear RX5 3 none G) {k22 : (tw_St → Nat → Int32 → Option (tw_St))} (hk22 : ∀ (σ : tw_St) (a0 : Nat) (x1 : Int32) (q : tw_St), k22 σ a0 x1 = some q → tw_X p l e rmX5_clear s m args below meth c 3 G σ 0 0 (tw_Q below args s G 0 0 none q) 22 [(0, .ref a0), (1, .int x1)] []) {σ : tw_St} {a0 : Nat} {x1 : Int32} {q : tw_St} (h : fX5_clear_b85 k22 σ a0 x1 = some q) : tw_X p l e rmX5_clear s m args below meth c 3 G σ 0 0 (tw_Q below args s G 0 0 none q) 85 [(0, .ref a0), (1, .int x1)] [] := by
  unfold fX5_clear_b85 at h
  refine tw_iinc (q := 1) (v := (x1 + 1)) (lv' := [(1, .int (x1 + 1)), (0, .ref a0)]) hO dX5_clear_85 rfl rfl (by decide) rfl ?_
  refine tw_goto (tgt := 22) hO dX5_clear_88 (by decide) ?_
  refine tw_sub [1, 0] rfl ?_
  exact hk22 _ _ _ _ h
set_option maxRecDepth 100000 in
set_option maxHeartbeats 4000000 in
theorem wX5_clear_h65 (hO : tw_O p s m args meth c cX5_clear RX5 3 none G) {k22 : (tw_St → Nat → Int32 → Option (tw_St))} {k65 : (tw_St → Nat → Int32 → Int32 → Option (tw_St))} (hk22 : ∀ (σ : tw_St) (a0 : Nat) (x1 : Int32) (q : tw_St), k22 σ a0 x1 = some q → tw_X p l e rmX5_clear s m args below meth c 3 G σ 0 0 (tw_Q below args s G 0 0 none q) 22 [(0, .ref a0), (1, .int x1)] []) (hk65 : ∀ (σ : tw_St) (a0 : Nat) (x1 : Int32) (x2 : Int32) (q : tw_St), k65 σ a0 x1 x2 = some q → tw_X p l e rmX5_clear s m args below meth c 3 G σ 0 0 (tw_Q below args s G 0 0 none q) 65 [(0, .ref a0), (1, .int x1), (2, .int x2)] []) {σ : tw_St} {a0 : Nat} {x1 : Int32} {x2 : Int32} {q : tw_St} (h : fX5_clear_h65 k22 k65 σ a0 x1 x2 = some q) : tw_X p l e rmX5_clear s m args below meth c 3 G σ 0 0 (tw_Q below args s G 0 0 none q) 65 [(0, .ref a0), (1, .int x1), (2, .int x2)] [] := by
  unfold fX5_clear_h65 at h
  refine tw_iload_n 2 hO dX5_clear_65 rfl rfl ?_
  refine tw_iconst (v := 4) hO dX5_clear_66 (by decide) ?_
  refine tw_icmp_ge (tgt := 85) hO dX5_clear_67 (by decide) (fun cc => ?_) (fun cc => ?_)
  · replace h := tw_ifp cc h
    refine tw_sub [0, 1] rfl ?_
    exact wX5_clear_b85 hO hk22 h
  · replace h := tw_ifn cc h
    refine tw_aload_n 0 hO dX5_clear_70 rfl rfl ?_
    obtain ⟨v71, e71, h⟩ := tw_bd h
    refine tw_getP hO dX5_clear_71 (t := 5) rfl 8 (by decide) rfl tw_w155 rfl e71 ?_
    refine tw_iload_n 1 hO dX5_clear_74 rfl rfl ?_
    obtain ⟨v75, e75, h⟩ := tw_bd h
    refine tw_aald hO dX5_clear_75 (by decide) (by decide) e75 ?_
    refine tw_iload_n 2 hO dX5_clear_76 rfl rfl ?_
    refine tw_iconst (v := 0) hO dX5_clear_77 (by decide) ?_
    obtain ⟨σ78, e78, h⟩ := tw_bd h
    refine tw_iast hO dX5_clear_78 e78 ?_
    refine tw_iinc (q := 2) (v := (x2 + 1)) (lv' := [(2, .int (x2 + 1)), (0, .ref a0), (1, .int x1)]) hO dX5_clear_79 rfl rfl (by decide) rfl ?_
    refine tw_goto (tgt := 65) hO dX5_clear_82 (by decide) ?_
    refine tw_sub [1, 2, 0] rfl ?_
    exact hk65 _ _ _ _ _ h
set_option maxRecDepth 100000 in
set_option maxHeartbeats 4000000 in
theorem wX5_clear_l65 (hO : tw_O p s m args meth c cX5_clear RX5 3 none G) {k22 : (tw_St → Nat → Int32 → Option (tw_St))} (hk22 : ∀ (σ : tw_St) (a0 : Nat) (x1 : Int32) (q : tw_St), k22 σ a0 x1 = some q → tw_X p l e rmX5_clear s m args below meth c 3 G σ 0 0 (tw_Q below args s G 0 0 none q) 22 [(0, .ref a0), (1, .int x1)] []) : ∀ (n : Nat) (σ : tw_St) (a0 : Nat) (x1 : Int32) (x2 : Int32) (q : tw_St), fX5_clear_l65 k22 n σ a0 x1 x2 = some q → tw_X p l e rmX5_clear s m args below meth c 3 G σ 0 0 (tw_Q below args s G 0 0 none q) 65 [(0, .ref a0), (1, .int x1), (2, .int x2)] [] := by
  intro n
  induction n with
  | zero => intro _ _ _ _ q h; cases (show (none : Option (tw_St)) = some q from h)
  | succ n ih => intro _ _ _ _ q h; exact wX5_clear_h65 hO hk22 ih h
set_option maxRecDepth 100000 in
set_option maxHeartbeats 4000000 in
theorem wX5_clear_b63 (hO : tw_O p s m args meth c cX5_clear RX5 3 none G) {k22 : (tw_St → Nat → Int32 → Option (tw_St))} (hk22 : ∀ (σ : tw_St) (a0 : Nat) (x1 : Int32) (q : tw_St), k22 σ a0 x1 = some q → tw_X p l e rmX5_clear s m args below meth c 3 G σ 0 0 (tw_Q below args s G 0 0 none q) 22 [(0, .ref a0), (1, .int x1)] []) {σ : tw_St} {a0 : Nat} {x1 : Int32} {q : tw_St} (h : fX5_clear_b63 k22 σ a0 x1 = some q) : tw_X p l e rmX5_clear s m args below meth c 3 G σ 0 0 (tw_Q below args s G 0 0 none q) 63 [(0, .ref a0), (1, .int x1)] [] := by
  unfold fX5_clear_b63 at h
  refine tw_iconst (v := 0) hO dX5_clear_63 (by decide) ?_
  refine tw_istore_n (lv' := [(2, .int 0), (0, .ref a0), (1, .int x1)]) hO dX5_clear_64 rfl (by decide) rfl ?_
  refine tw_sub [1, 2, 0] rfl ?_
  exact wX5_clear_l65 hO hk22 _ _ _ _ _ _ h
set_option maxRecDepth 100000 in
set_option maxHeartbeats 4000000 in
theorem wX5_clear_h43 (hO : tw_O p s m args meth c cX5_clear RX5 3 none G) {k22 : (tw_St → Nat → Int32 → Option (tw_St))} {k43 : (tw_St → Nat → Int32 → Int32 → Option (tw_St))} (hk22 : ∀ (σ : tw_St) (a0 : Nat) (x1 : Int32) (q : tw_St), k22 σ a0 x1 = some q → tw_X p l e rmX5_clear s m args below meth c 3 G σ 0 0 (tw_Q below args s G 0 0 none q) 22 [(0, .ref a0), (1, .int x1)] []) (hk43 : ∀ (σ : tw_St) (a0 : Nat) (x1 : Int32) (x2 : Int32) (q : tw_St), k43 σ a0 x1 x2 = some q → tw_X p l e rmX5_clear s m args below meth c 3 G σ 0 0 (tw_Q below args s G 0 0 none q) 43 [(0, .ref a0), (1, .int x1), (2, .int x2)] []) {σ : tw_St} {a0 : Nat} {x1 : Int32} {x2 : Int32} {q : tw_St} (h : fX5_clear_h43 k22 k43 σ a0 x1 x2 = some q) : tw_X p l e rmX5_clear s m args below meth c 3 G σ 0 0 (tw_Q below args s G 0 0 none q) 43 [(0, .ref a0), (1, .int x1), (2, .int x2)] [] := by
  unfold fX5_clear_h43 at h
  refine tw_iload_n 2 hO dX5_clear_43 rfl rfl ?_
  refine tw_iconst (v := 5) hO dX5_clear_44 (by decide) ?_
  refine tw_icmp_ge (tgt := 63) hO dX5_clear_45 (by decide) (fun cc => ?_) (fun cc => ?_)
  · replace h := tw_ifp cc h
    refine tw_sub [0, 1] rfl ?_
    exact wX5_clear_b63 hO hk22 h
  · replace h := tw_ifn cc h
    refine tw_aload_n 0 hO dX5_clear_48 rfl rfl ?_
    obtain ⟨v49, e49, h⟩ := tw_bd h
    refine tw_getP hO dX5_clear_49 (t := 5) rfl 5 (by decide) rfl tw_w151 rfl e49 ?_
    refine tw_iload_n 1 hO dX5_clear_52 rfl rfl ?_
    obtain ⟨v53, e53, h⟩ := tw_bd h
    refine tw_aald hO dX5_clear_53 (by decide) (by decide) e53 ?_
    refine tw_iload_n 2 hO dX5_clear_54 rfl rfl ?_
    refine tw_iconst (v := 0) hO dX5_clear_55 (by decide) ?_
    obtain ⟨σ56, e56, h⟩ := tw_bd h
    refine tw_iast hO dX5_clear_56 e56 ?_
    refine tw_iinc (q := 2) (v := (x2 + 1)) (lv' := [(2, .int (x2 + 1)), (0, .ref a0), (1, .int x1)]) hO dX5_clear_57 rfl rfl (by decide) rfl ?_
    refine tw_goto (tgt := 43) hO dX5_clear_60 (by decide) ?_
    refine tw_sub [1, 2, 0] rfl ?_
    exact hk43 _ _ _ _ _ h
set_option maxRecDepth 100000 in
set_option maxHeartbeats 4000000 in
theorem wX5_clear_l43 (hO : tw_O p s m args meth c cX5_clear RX5 3 none G) {k22 : (tw_St → Nat → Int32 → Option (tw_St))} (hk22 : ∀ (σ : tw_St) (a0 : Nat) (x1 : Int32) (q : tw_St), k22 σ a0 x1 = some q → tw_X p l e rmX5_clear s m args below meth c 3 G σ 0 0 (tw_Q below args s G 0 0 none q) 22 [(0, .ref a0), (1, .int x1)] []) : ∀ (n : Nat) (σ : tw_St) (a0 : Nat) (x1 : Int32) (x2 : Int32) (q : tw_St), fX5_clear_l43 k22 n σ a0 x1 x2 = some q → tw_X p l e rmX5_clear s m args below meth c 3 G σ 0 0 (tw_Q below args s G 0 0 none q) 43 [(0, .ref a0), (1, .int x1), (2, .int x2)] [] := by
  intro n
  induction n with
  | zero => intro _ _ _ _ q h; cases (show (none : Option (tw_St)) = some q from h)
  | succ n ih => intro _ _ _ _ q h; exact wX5_clear_h43 hO hk22 ih h
set_option maxRecDepth 100000 in
set_option maxHeartbeats 4000000 in
theorem wX5_clear_h22 (hO : tw_O p s m args meth c cX5_clear RX5 3 none G) {k22 : (tw_St → Nat → Int32 → Option (tw_St))} (hk22 : ∀ (σ : tw_St) (a0 : Nat) (x1 : Int32) (q : tw_St), k22 σ a0 x1 = some q → tw_X p l e rmX5_clear s m args below meth c 3 G σ 0 0 (tw_Q below args s G 0 0 none q) 22 [(0, .ref a0), (1, .int x1)] []) {σ : tw_St} {a0 : Nat} {x1 : Int32} {q : tw_St} (h : fX5_clear_h22 k22 σ a0 x1 = some q) : tw_X p l e rmX5_clear s m args below meth c 3 G σ 0 0 (tw_Q below args s G 0 0 none q) 22 [(0, .ref a0), (1, .int x1)] [] := by
  unfold fX5_clear_h22 at h
  refine tw_iload_n 1 hO dX5_clear_22 rfl rfl ?_
  refine tw_iconst (v := 2) hO dX5_clear_23 (by decide) ?_
  refine tw_icmp_ge (tgt := 91) hO dX5_clear_24 (by decide) (fun cc => ?_) (fun cc => ?_)
  · replace h := tw_ifp cc h
    exact tw_vret hO dX5_clear_91 h
  · replace h := tw_ifn cc h
    refine tw_aload_n 0 hO dX5_clear_27 rfl rfl ?_
    obtain ⟨v28, e28, h⟩ := tw_bd h
    refine tw_getP hO dX5_clear_28 (t := 5) rfl 1 (by decide) rfl tw_w143 rfl e28 ?_
    refine tw_iload_n 1 hO dX5_clear_31 rfl rfl ?_
    refine tw_iconst (v := 0) hO dX5_clear_32 (by decide) ?_
    obtain ⟨σ33, e33, h⟩ := tw_bd h
    refine tw_iast hO dX5_clear_33 e33 ?_
    refine tw_aload_n 0 hO dX5_clear_34 rfl rfl ?_
    obtain ⟨v35, e35, h⟩ := tw_bd h
    refine tw_getP hO dX5_clear_35 (t := 5) rfl 2 (by decide) rfl tw_w145 rfl e35 ?_
    refine tw_iload_n 1 hO dX5_clear_38 rfl rfl ?_
    refine tw_iconst (v := 0) hO dX5_clear_39 (by decide) ?_
    obtain ⟨σ40, e40, h⟩ := tw_bd h
    refine tw_iast hO dX5_clear_40 e40 ?_
    refine tw_iconst (v := 0) hO dX5_clear_41 (by decide) ?_
    refine tw_istore_n (lv' := [(2, .int 0), (0, .ref a0), (1, .int x1)]) hO dX5_clear_42 rfl (by decide) rfl ?_
    refine tw_sub [1, 2, 0] rfl ?_
    exact wX5_clear_l43 hO hk22 _ _ _ _ _ _ h
set_option maxRecDepth 100000 in
set_option maxHeartbeats 4000000 in
theorem wX5_clear_l22 (hO : tw_O p s m args meth c cX5_clear RX5 3 none G) : ∀ (n : Nat) (σ : tw_St) (a0 : Nat) (x1 : Int32) (q : tw_St), fX5_clear_l22 n σ a0 x1 = some q → tw_X p l e rmX5_clear s m args below meth c 3 G σ 0 0 (tw_Q below args s G 0 0 none q) 22 [(0, .ref a0), (1, .int x1)] [] := by
  intro n
  induction n with
  | zero => intro _ _ _ q h; cases (show (none : Option (tw_St)) = some q from h)
  | succ n ih => intro _ _ _ q h; exact wX5_clear_h22 hO ih h
set_option maxRecDepth 100000 in
set_option maxHeartbeats 4000000 in
theorem wX5_clear_b20 (hO : tw_O p s m args meth c cX5_clear RX5 3 none G) {σ : tw_St} {a0 : Nat} {q : tw_St} (h : fX5_clear_b20 σ a0 = some q) : tw_X p l e rmX5_clear s m args below meth c 3 G σ 0 0 (tw_Q below args s G 0 0 none q) 20 [(0, .ref a0)] [] := by
  unfold fX5_clear_b20 at h
  refine tw_iconst (v := 0) hO dX5_clear_20 (by decide) ?_
  refine tw_istore_n (lv' := [(1, .int 0), (0, .ref a0)]) hO dX5_clear_21 rfl (by decide) rfl ?_
  refine tw_sub [1, 0] rfl ?_
  exact wX5_clear_l22 hO _ _ _ _ _ h
set_option maxRecDepth 100000 in
set_option maxHeartbeats 4000000 in
theorem wX5_clear_h2 (hO : tw_O p s m args meth c cX5_clear RX5 3 none G) {k2 : (tw_St → Nat → Int32 → Option (tw_St))} (hk2 : ∀ (σ : tw_St) (a0 : Nat) (x1 : Int32) (q : tw_St), k2 σ a0 x1 = some q → tw_X p l e rmX5_clear s m args below meth c 3 G σ 0 0 (tw_Q below args s G 0 0 none q) 2 [(0, .ref a0), (1, .int x1)] []) {σ : tw_St} {a0 : Nat} {x1 : Int32} {q : tw_St} (h : fX5_clear_h2 k2 σ a0 x1 = some q) : tw_X p l e rmX5_clear s m args below meth c 3 G σ 0 0 (tw_Q below args s G 0 0 none q) 2 [(0, .ref a0), (1, .int x1)] [] := by
  unfold fX5_clear_h2 at h
  refine tw_iload_n 1 hO dX5_clear_2 rfl rfl ?_
  refine tw_iconst (v := 2) hO dX5_clear_3 (by decide) ?_
  refine tw_icmp_ge (tgt := 20) hO dX5_clear_4 (by decide) (fun cc => ?_) (fun cc => ?_)
  · replace h := tw_ifp cc h
    refine tw_sub [0] rfl ?_
    exact wX5_clear_b20 hO h
  · replace h := tw_ifn cc h
    refine tw_aload_n 0 hO dX5_clear_7 rfl rfl ?_
    obtain ⟨v8, e8, h⟩ := tw_bd h
    refine tw_getP hO dX5_clear_8 (t := 5) rfl 9 (by decide) rfl tw_w156 rfl e8 ?_
    refine tw_iload_n 1 hO dX5_clear_11 rfl rfl ?_
    refine tw_iconst (v := 0) hO dX5_clear_12 (by decide) ?_
    obtain ⟨σ13, e13, h⟩ := tw_bd h
    refine tw_iast hO dX5_clear_13 e13 ?_
    refine tw_iinc (q := 1) (v := (x1 + 1)) (lv' := [(1, .int (x1 + 1)), (0, .ref a0)]) hO dX5_clear_14 rfl rfl (by decide) rfl ?_
    refine tw_goto (tgt := 2) hO dX5_clear_17 (by decide) ?_
    refine tw_sub [1, 0] rfl ?_
    exact hk2 _ _ _ _ h
set_option maxRecDepth 100000 in
set_option maxHeartbeats 4000000 in
theorem wX5_clear_l2 (hO : tw_O p s m args meth c cX5_clear RX5 3 none G) : ∀ (n : Nat) (σ : tw_St) (a0 : Nat) (x1 : Int32) (q : tw_St), fX5_clear_l2 n σ a0 x1 = some q → tw_X p l e rmX5_clear s m args below meth c 3 G σ 0 0 (tw_Q below args s G 0 0 none q) 2 [(0, .ref a0), (1, .int x1)] [] := by
  intro n
  induction n with
  | zero => intro _ _ _ q h; cases (show (none : Option (tw_St)) = some q from h)
  | succ n ih => intro _ _ _ q h; exact wX5_clear_h2 hO ih h
set_option maxRecDepth 100000 in
set_option maxHeartbeats 4000000 in
theorem mX5_clear (l : Launch) (G : tw_G) {σ : tw_St} {a : Nat} {q : tw_St} (h : fX5_clear σ a = some q) : tw_M l G yX5_clear cX5_clear 3 none rmX5_clear 0 0 σ [.ref a] none q := by
  unfold fX5_clear at h
  obtain ⟨_, -, h⟩ := tw_bd h
  refine tw_M.of (by decide +kernel) (Nat.le_of_ble_eq_true rfl) (fun p e s m args below meth c hnm hO => ?_)
  have hO : tw_O p s m args meth c cX5_clear RX5 3 none G := hO
  refine tw_iconst (v := 0) hO dX5_clear_0 (by decide) ?_
  refine tw_istore_n (lv' := [(1, .int 0), (0, .ref a)]) hO dX5_clear_1 rfl (by decide) rfl ?_
  refine tw_sub [1, 0] rfl ?_
  exact wX5_clear_l2 hO _ _ _ _ _ h
theorem cfX5_hasStep : tw_CF yX5_hasStep cX5_hasStep 2 (some .boolean) 1 := ⟨tw_w342, tw_w51, by decide +kernel, by decide +kernel, by decide +kernel⟩
theorem kX5_hasStep {σ : tw_St} {a : Nat} {x1 : Int32} {q : Int32} (h : fX5_hasStep σ a x1 = some q) : tw_is σ 5 a = some () := by
  unfold fX5_hasStep at h
  obtain ⟨_, e1, -⟩ := tw_bd h
  exact e1
set_option maxRecDepth 100000 in
set_option maxHeartbeats 4000000 in
theorem mX5_hasStep (l : Launch) (G : tw_G) {σ : tw_St} {a : Nat} {x1 : Int32} {q : Int32} (h : fX5_hasStep σ a x1 = some q) : tw_M l G yX5_hasStep cX5_hasStep 2 (some .boolean) rmX5_hasStep 0 0 σ [.ref a, .int x1] (some (.int q)) σ := by
  unfold fX5_hasStep at h
  obtain ⟨_, -, h⟩ := tw_bd h
  refine tw_M.of (by decide +kernel) (Nat.le_of_ble_eq_true rfl) (fun p e s m args below meth c hnm hO => ?_)
  have hO : tw_O p s m args meth c cX5_hasStep RX5 2 (some .boolean) G := hO
  refine tw_aload_n 0 hO dX5_hasStep_0 rfl rfl ?_
  obtain ⟨v1, e1, h⟩ := tw_bd h
  refine tw_getP hO dX5_hasStep_1 (t := 5) rfl 1 (by decide) rfl tw_w143 rfl e1 ?_
  refine tw_iload_n 1 hO dX5_hasStep_4 rfl rfl ?_
  obtain ⟨v5, e5, h⟩ := tw_bd h
  refine tw_iald hO dX5_hasStep_5 e5 ?_
  refine tw_aload_n 0 hO dX5_hasStep_6 rfl rfl ?_
  obtain ⟨v7, e7, h⟩ := tw_bd h
  refine tw_getP hO dX5_hasStep_7 (t := 5) rfl 0 (by decide) rfl tw_w141 rfl e7 ?_
  refine tw_iload_n 1 hO dX5_hasStep_10 rfl rfl ?_
  obtain ⟨v11, e11, h⟩ := tw_bd h
  refine tw_aald hO dX5_hasStep_11 (by decide) (by decide) e11 ?_
  obtain ⟨v12, e12, h⟩ := tw_bd h
  refine tw_getI hO dX5_hasStep_12 (t := 2) rfl 0 (by decide) rfl tw_w123 rfl e12 ?_
  refine tw_icmp_ge (tgt := 22) hO dX5_hasStep_15 (by decide) (fun cc => ?_) (fun cc => ?_)
  · replace h := tw_ifp cc h
    refine tw_iconst (v := 0) hO dX5_hasStep_22 (by decide) ?_
    exact tw_zretR hO rfl dX5_hasStep_23 h
  · replace h := tw_ifn cc h
    refine tw_iconst (v := 1) hO dX5_hasStep_18 (by decide) ?_
    refine tw_goto (tgt := 23) hO dX5_hasStep_19 (by decide) ?_
    exact tw_zretR hO rfl dX5_hasStep_23 h
theorem cfX5_isReady : tw_CF yX5_isReady cX5_isReady 4 (some .boolean) 3 := ⟨tw_w355, tw_w51, by decide +kernel, by decide +kernel, by decide +kernel⟩
theorem kX5_isReady {σ : tw_St} {a : Nat} {x1 : Int32} {x2 : Int32} {x3 : Int32} {q : Int32} (h : fX5_isReady σ a x1 x2 x3 = some q) : tw_is σ 5 a = some () := by
  unfold fX5_isReady at h
  obtain ⟨_, e1, -⟩ := tw_bd h
  exact e1
set_option maxRecDepth 100000 in
set_option maxHeartbeats 4000000 in
theorem wX5_isReady_b21 (hO : tw_O p s m args meth c cX5_isReady RX5 4 (some .boolean) G) {σ : tw_St} {q : Int32} (h : fX5_isReady_b21 σ = some q) : tw_X p l e rmX5_isReady s m args below meth c 4 G σ 0 0 (tw_Q below args s G 0 0 (some (.int q)) σ) 21 [] [] := by
  unfold fX5_isReady_b21 at h
  refine tw_iconst (v := 1) hO dX5_isReady_21 (by decide) ?_
  refine tw_goto (tgt := 26) hO dX5_isReady_22 (by decide) ?_
  exact tw_zretR hO rfl dX5_isReady_26 h
set_option maxRecDepth 100000 in
set_option maxHeartbeats 4000000 in
theorem mX5_isReady (l : Launch) (G : tw_G) {σ : tw_St} {a : Nat} {x1 : Int32} {x2 : Int32} {x3 : Int32} {q : Int32} (h : fX5_isReady σ a x1 x2 x3 = some q) : tw_M l G yX5_isReady cX5_isReady 4 (some .boolean) rmX5_isReady 0 0 σ [.ref a, .int x1, .int x2, .int x3] (some (.int q)) σ := by
  unfold fX5_isReady at h
  obtain ⟨_, -, h⟩ := tw_bd h
  refine tw_M.of (by decide +kernel) (Nat.le_of_ble_eq_true rfl) (fun p e s m args below meth c hnm hO => ?_)
  have hO : tw_O p s m args meth c cX5_isReady RX5 4 (some .boolean) G := hO
  refine tw_iload_n 2 hO dX5_isReady_0 rfl rfl ?_
  refine tw_if_lt (tgt := 21) hO dX5_isReady_1 (by decide) (fun cc => ?_) (fun cc => ?_)
  · replace h := tw_ifp cc h
    refine tw_sub [] rfl ?_
    exact wX5_isReady_b21 hO h
  · replace h := tw_ifn cc h
    refine tw_iload_n 2 hO dX5_isReady_4 rfl rfl ?_
    refine tw_iconst (v := 4) hO dX5_isReady_5 (by decide) ?_
    refine tw_icmp_ge (tgt := 21) hO dX5_isReady_6 (by decide) (fun cc => ?_) (fun cc => ?_)
    · replace h := tw_ifp cc h
      refine tw_sub [] rfl ?_
      exact wX5_isReady_b21 hO h
    · replace h := tw_ifn cc h
      refine tw_aload_n 0 hO dX5_isReady_9 rfl rfl ?_
      obtain ⟨v10, e10, h⟩ := tw_bd h
      refine tw_getP hO dX5_isReady_10 (t := 5) rfl 8 (by decide) rfl tw_w155 rfl e10 ?_
      refine tw_iload_n 1 hO dX5_isReady_13 rfl rfl ?_
      obtain ⟨v14, e14, h⟩ := tw_bd h
      refine tw_aald hO dX5_isReady_14 (by decide) (by decide) e14 ?_
      refine tw_iload_n 2 hO dX5_isReady_15 rfl rfl ?_
      obtain ⟨v16, e16, h⟩ := tw_bd h
      refine tw_iald hO dX5_isReady_16 e16 ?_
      refine tw_iload_n 3 hO dX5_isReady_17 rfl rfl ?_
      refine tw_icmp_gt (tgt := 25) hO dX5_isReady_18 (by decide) (fun cc => ?_) (fun cc => ?_)
      · replace h := tw_ifp cc h
        refine tw_iconst (v := 0) hO dX5_isReady_25 (by decide) ?_
        exact tw_zretR hO rfl dX5_isReady_26 h
      · replace h := tw_ifn cc h
        refine tw_sub [] rfl ?_
        exact wX5_isReady_b21 hO h
theorem cfX5_hindranceOf : tw_CF yX5_hindranceOf cX5_hindranceOf 6 (some .int) 2 := ⟨tw_w350, tw_w51, by decide +kernel, by decide +kernel, by decide +kernel⟩
theorem kX5_hindranceOf {σ : tw_St} {a : Nat} {x1 : Int32} {x2 : Int32} {q : Int32} (h : fX5_hindranceOf σ a x1 x2 = some q) : tw_is σ 5 a = some () := by
  unfold fX5_hindranceOf at h
  obtain ⟨_, e1, -⟩ := tw_bd h
  exact e1
set_option maxRecDepth 100000 in
set_option maxHeartbeats 4000000 in
theorem wX5_hindranceOf_b72 (hO : tw_O p s m args meth c cX5_hindranceOf RX5 6 (some .int) G) {σ : tw_St} {a0 : Nat} {x1 : Int32} {x2 : Int32} {a3 : Nat} {x4 : Int32} {q : Int32} (h : fX5_hindranceOf_b72 σ a0 x1 x2 a3 x4 = some q) : tw_X p l e rmX5_hindranceOf s m args below meth c 6 G σ 0 0 (tw_Q below args s G 0 0 (some (.int q)) σ) 72 [(0, .ref a0), (1, .int x1), (2, .int x2), (3, .ref a3), (4, .int x4)] [] := by
  unfold fX5_hindranceOf_b72 at h
  refine tw_aload_n 3 hO dX5_hindranceOf_72 rfl rfl ?_
  refine tw_iload 4 hO dX5_hindranceOf_73 rfl ?_
  obtain ⟨v75, e75, h⟩ := tw_bd h
  refine tw_cVi hO (mX3_roomOf l G e75) cfX3_roomOf (t := 3) rfl (kX3_roomOf e75) tw_w356 tw_w357 tw_w358 rfl rfl rfl rfl ⟨(Nat.le_of_ble_eq_true rfl), (Nat.le_of_ble_eq_true rfl)⟩ (Nat.le_of_ble_eq_true rfl) ⟨(Nat.le_of_ble_eq_true rfl), (Nat.le_of_ble_eq_true rfl)⟩ dX5_hindranceOf_75 ?_
  refine tw_istore (lv' := [(5, .int v75), (0, .ref a0), (1, .int x1), (2, .int x2), (3, .ref a3), (4, .int x4)]) hO dX5_hindranceOf_78 (by decide) rfl ?_
  refine tw_iload 0 hO dX5_hindranceOf_80 rfl ?_
  refine tw_bipush (v := (-6)) hO dX5_hindranceOf_82 (by decide) ?_
  refine tw_icmp_eq (tgt := 107) hO dX5_hindranceOf_84 (by decide) (fun cc => ?_) (fun cc => ?_)
  · replace h := tw_ifp cc h
    refine tw_iconst (v := 0) hO dX5_hindranceOf_107 (by decide) ?_
    exact tw_iretR hO dX5_hindranceOf_108 h
  · replace h := tw_ifn cc h
    refine tw_iload 0 hO dX5_hindranceOf_87 rfl ?_
    refine tw_aload_n 1 hO dX5_hindranceOf_89 rfl rfl ?_
    obtain ⟨v90, e90, h⟩ := tw_bd h
    refine tw_getI hO dX5_hindranceOf_90 (t := 5) rfl 11 (by decide) rfl tw_w158 rfl e90 ?_
    refine tw_icmp_eq (tgt := 107) hO dX5_hindranceOf_93 (by decide) (fun cc => ?_) (fun cc => ?_)
    · replace h := tw_ifp cc h
      refine tw_iconst (v := 0) hO dX5_hindranceOf_107 (by decide) ?_
      exact tw_iretR hO dX5_hindranceOf_108 h
    · replace h := tw_ifn cc h
      refine tw_aload_n 1 hO dX5_hindranceOf_96 rfl rfl ?_
      obtain ⟨v97, e97, h⟩ := tw_bd h
      refine tw_getP hO dX5_hindranceOf_97 (t := 5) rfl 9 (by decide) rfl tw_w156 rfl e97 ?_
      refine tw_iload 0 hO dX5_hindranceOf_100 rfl ?_
      obtain ⟨v102, e102, h⟩ := tw_bd h
      refine tw_iald hO dX5_hindranceOf_102 e102 ?_
      refine tw_iload_n 3 hO dX5_hindranceOf_103 rfl rfl ?_
      refine tw_icmp_gt (tgt := 109) hO dX5_hindranceOf_104 (by decide) (fun cc => ?_) (fun cc => ?_)
      · replace h := tw_ifp cc h
        refine tw_aload_n 1 hO dX5_hindranceOf_109 rfl rfl ?_
        obtain ⟨v110, e110, h⟩ := tw_bd h
        refine tw_getP hO dX5_hindranceOf_110 (t := 5) rfl 10 (by decide) rfl tw_w157 rfl e110 ?_
        refine tw_iload 0 hO dX5_hindranceOf_113 rfl ?_
        obtain ⟨v115, e115, h⟩ := tw_bd h
        refine tw_iald hO dX5_hindranceOf_115 e115 ?_
        refine tw_iload_n 2 hO dX5_hindranceOf_116 rfl rfl ?_
        refine tw_icmp_ne (tgt := 124) hO dX5_hindranceOf_117 (by decide) (fun cc => ?_) (fun cc => ?_)
        · replace h := tw_ifn cc h
          refine tw_iconst (v := 3) hO dX5_hindranceOf_124 (by decide) ?_
          exact tw_iretR hO dX5_hindranceOf_125 h
        · replace h := tw_ifp cc h
          refine tw_iconst (v := 2) hO dX5_hindranceOf_120 (by decide) ?_
          refine tw_goto (tgt := 125) hO dX5_hindranceOf_121 (by decide) ?_
          exact tw_iretR hO dX5_hindranceOf_125 h
      · replace h := tw_ifn cc h
        refine tw_iconst (v := 0) hO dX5_hindranceOf_107 (by decide) ?_
        exact tw_iretR hO dX5_hindranceOf_108 h
set_option maxRecDepth 100000 in
set_option maxHeartbeats 4000000 in
theorem wX5_hindranceOf_h41 (hO : tw_O p s m args meth c cX5_hindranceOf RX5 6 (some .int) G) {k41 : (tw_St → Nat → Int32 → Int32 → Nat → Int32 → Int32 → Option (Int32))} (hk41 : ∀ (σ : tw_St) (a0 : Nat) (x1 : Int32) (x2 : Int32) (a3 : Nat) (x4 : Int32) (x5 : Int32) (q : Int32), k41 σ a0 x1 x2 a3 x4 x5 = some q → tw_X p l e rmX5_hindranceOf s m args below meth c 6 G σ 0 0 (tw_Q below args s G 0 0 (some (.int q)) σ) 41 [(0, .ref a0), (1, .int x1), (2, .int x2), (3, .ref a3), (4, .int x4), (5, .int x5)] []) {σ : tw_St} {a0 : Nat} {x1 : Int32} {x2 : Int32} {a3 : Nat} {x4 : Int32} {x5 : Int32} {q : Int32} (h : fX5_hindranceOf_h41 k41 σ a0 x1 x2 a3 x4 x5 = some q) : tw_X p l e rmX5_hindranceOf s m args below meth c 6 G σ 0 0 (tw_Q below args s G 0 0 (some (.int q)) σ) 41 [(0, .ref a0), (1, .int x1), (2, .int x2), (3, .ref a3), (4, .int x4), (5, .int x5)] [] := by
  unfold fX5_hindranceOf_h41 at h
  refine tw_iload 5 hO dX5_hindranceOf_41 rfl ?_
  refine tw_iconst (v := 3) hO dX5_hindranceOf_43 (by decide) ?_
  refine tw_icmp_gt (tgt := 72) hO dX5_hindranceOf_44 (by decide) (fun cc => ?_) (fun cc => ?_)
  · replace h := tw_ifp cc h
    refine tw_sub [0, 1, 2, 3, 4] rfl ?_
    exact wX5_hindranceOf_b72 hO h
  · replace h := tw_ifn cc h
    refine tw_aload_n 0 hO dX5_hindranceOf_47 rfl rfl ?_
    refine tw_iload_n 1 hO dX5_hindranceOf_48 rfl rfl ?_
    refine tw_aload_n 3 hO dX5_hindranceOf_49 rfl rfl ?_
    refine tw_iload 4 hO dX5_hindranceOf_50 rfl ?_
    refine tw_iload 5 hO dX5_hindranceOf_52 rfl ?_
    obtain ⟨v54, e54, h⟩ := tw_bd h
    refine tw_cVi hO (mX3_told l G e54) cfX3_told (t := 3) rfl (kX3_told e54) tw_w351 tw_w314 tw_w315 rfl rfl rfl rfl ⟨(Nat.le_of_ble_eq_true rfl), (Nat.le_of_ble_eq_true rfl)⟩ (Nat.le_of_ble_eq_true rfl) ⟨(Nat.le_of_ble_eq_true rfl), (Nat.le_of_ble_eq_true rfl)⟩ dX5_hindranceOf_54 ?_
    refine tw_iload_n 2 hO dX5_hindranceOf_57 rfl rfl ?_
    obtain ⟨v58, e58, h⟩ := tw_bd h
    refine tw_cVi hO (mX5_isReady l G e58) cfX5_isReady (t := 5) rfl (kX5_isReady e58) tw_w352 tw_w354 tw_w7 rfl rfl rfl rfl ⟨(Nat.le_of_ble_eq_true rfl), (Nat.le_of_ble_eq_true rfl)⟩ (Nat.le_of_ble_eq_true rfl) ⟨(Nat.le_of_ble_eq_true rfl), (Nat.le_of_ble_eq_true rfl)⟩ dX5_hindranceOf_58 ?_
    refine tw_if_ne (tgt := 66) hO dX5_hindranceOf_61 (by decide) (fun cc => ?_) (fun cc => ?_)
    · replace h := tw_ifn cc h
      refine tw_iinc (q := 5) (v := (x5 + 1)) (lv' := [(5, .int (x5 + 1)), (0, .ref a0), (1, .int x1), (2, .int x2), (3, .ref a3), (4, .int x4)]) hO dX5_hindranceOf_66 rfl rfl (by decide) rfl ?_
      refine tw_goto (tgt := 41) hO dX5_hindranceOf_69 (by decide) ?_
      refine tw_sub [1, 2, 3, 4, 5, 0] rfl ?_
      exact hk41 _ _ _ _ _ _ _ _ h
    · replace h := tw_ifp cc h
      refine tw_iconst (v := 1) hO dX5_hindranceOf_64 (by decide) ?_
      exact tw_iretR hO dX5_hindranceOf_65 h
set_option maxRecDepth 100000 in
set_option maxHeartbeats 4000000 in
theorem wX5_hindranceOf_l41 (hO : tw_O p s m args meth c cX5_hindranceOf RX5 6 (some .int) G) : ∀ (n : Nat) (σ : tw_St) (a0 : Nat) (x1 : Int32) (x2 : Int32) (a3 : Nat) (x4 : Int32) (x5 : Int32) (q : Int32), fX5_hindranceOf_l41 n σ a0 x1 x2 a3 x4 x5 = some q → tw_X p l e rmX5_hindranceOf s m args below meth c 6 G σ 0 0 (tw_Q below args s G 0 0 (some (.int q)) σ) 41 [(0, .ref a0), (1, .int x1), (2, .int x2), (3, .ref a3), (4, .int x4), (5, .int x5)] [] := by
  intro n
  induction n with
  | zero => intro _ _ _ _ _ _ _ q h; cases (show (none : Option (Int32)) = some q from h)
  | succ n ih => intro _ _ _ _ _ _ _ q h; exact wX5_hindranceOf_h41 hO ih h
set_option maxRecDepth 100000 in
set_option maxHeartbeats 4000000 in
theorem mX5_hindranceOf (l : Launch) (G : tw_G) {σ : tw_St} {a : Nat} {x1 : Int32} {x2 : Int32} {q : Int32} (h : fX5_hindranceOf σ a x1 x2 = some q) : tw_M l G yX5_hindranceOf cX5_hindranceOf 6 (some .int) rmX5_hindranceOf 0 0 σ [.ref a, .int x1, .int x2] (some (.int q)) σ := by
  unfold fX5_hindranceOf at h
  obtain ⟨_, -, h⟩ := tw_bd h
  refine tw_M.of (by decide +kernel) (Nat.le_of_ble_eq_true rfl) (fun p e s m args below meth c hnm hO => ?_)
  have hO : tw_O p s m args meth c cX5_hindranceOf RX5 6 (some .int) G := hO
  refine tw_aload_n 0 hO dX5_hindranceOf_0 rfl rfl ?_
  refine tw_iload_n 1 hO dX5_hindranceOf_1 rfl rfl ?_
  obtain ⟨v2, e2, h⟩ := tw_bd h
  refine tw_cVi hO (mX5_hasStep l G e2) cfX5_hasStep (t := 5) rfl (kX5_hasStep e2) tw_w339 tw_w341 tw_w4 rfl rfl rfl rfl ⟨(Nat.le_of_ble_eq_true rfl), (Nat.le_of_ble_eq_true rfl)⟩ (Nat.le_of_ble_eq_true rfl) ⟨(Nat.le_of_ble_eq_true rfl), (Nat.le_of_ble_eq_true rfl)⟩ dX5_hindranceOf_2 ?_
  refine tw_if_ne (tgt := 10) hO dX5_hindranceOf_5 (by decide) (fun cc => ?_) (fun cc => ?_)
  · replace h := tw_ifn cc h
    refine tw_aload_n 0 hO dX5_hindranceOf_10 rfl rfl ?_
    obtain ⟨v11, e11, h⟩ := tw_bd h
    refine tw_getP hO dX5_hindranceOf_11 (t := 5) rfl 6 (by decide) rfl tw_w153 rfl e11 ?_
    obtain ⟨v14, e14, h⟩ := tw_bd h
    refine tw_getP hO dX5_hindranceOf_14 (t := 6) rfl 1 (by decide) rfl tw_w97 rfl e14 ?_
    refine tw_iload_n 1 hO dX5_hindranceOf_17 rfl rfl ?_
    obtain ⟨v18, e18, h⟩ := tw_bd h
    refine tw_aald hO dX5_hindranceOf_18 (by decide) (by decide) e18 ?_
    refine tw_astore_n (lv' := [(3, .ref v18), (0, .ref a), (1, .int x1), (2, .int x2)]) hO dX5_hindranceOf_19 rfl (by decide) rfl ?_
    refine tw_aload_n 1 hO dX5_hindranceOf_20 rfl rfl ?_
    obtain ⟨v21, e21, h⟩ := tw_bd h
    refine tw_getP hO dX5_hindranceOf_21 (t := 5) rfl 0 (by decide) rfl tw_w141 rfl e21 ?_
    refine tw_iload_n 2 hO dX5_hindranceOf_24 rfl rfl ?_
    obtain ⟨v25, e25, h⟩ := tw_bd h
    refine tw_aald hO dX5_hindranceOf_25 (by decide) (by decide) e25 ?_
    obtain ⟨v26, e26, h⟩ := tw_bd h
    refine tw_getP hO dX5_hindranceOf_26 (t := 2) rfl 2 (by decide) rfl tw_w127 rfl e26 ?_
    refine tw_aload_n 1 hO dX5_hindranceOf_29 rfl rfl ?_
    obtain ⟨v30, e30, h⟩ := tw_bd h
    refine tw_getP hO dX5_hindranceOf_30 (t := 5) rfl 1 (by decide) rfl tw_w143 rfl e30 ?_
    refine tw_iload_n 2 hO dX5_hindranceOf_33 rfl rfl ?_
    obtain ⟨v34, e34, h⟩ := tw_bd h
    refine tw_iald hO dX5_hindranceOf_34 e34 ?_
    obtain ⟨v35, e35, h⟩ := tw_bd h
    refine tw_iald hO dX5_hindranceOf_35 e35 ?_
    refine tw_istore (lv' := [(4, .int v35), (3, .ref v18), (0, .ref a), (1, .int x1), (2, .int x2)]) hO dX5_hindranceOf_36 (by decide) rfl ?_
    refine tw_iconst (v := 1) hO dX5_hindranceOf_38 (by decide) ?_
    refine tw_istore (lv' := [(5, .int 1), (4, .int v35), (3, .ref v18), (0, .ref a), (1, .int x1), (2, .int x2)]) hO dX5_hindranceOf_39 (by decide) rfl ?_
    refine tw_sub [3, 4, 5, 2, 1, 0] rfl ?_
    exact wX5_hindranceOf_l41 hO _ _ _ _ _ _ _ _ _ h
  · replace h := tw_ifp cc h
    refine tw_iconst (v := 5) hO dX5_hindranceOf_8 (by decide) ?_
    exact tw_iretR hO dX5_hindranceOf_9 h
theorem cfX5_latestStart : tw_CF yX5_latestStart cX5_latestStart 3 (some .int) 1 := ⟨tw_w369, tw_w51, by decide +kernel, by decide +kernel, by decide +kernel⟩
theorem kX5_latestStart {σ : tw_St} {a : Nat} {x1 : Int32} {q : Int32} (h : fX5_latestStart σ a x1 = some q) : tw_is σ 5 a = some () := by
  unfold fX5_latestStart at h
  obtain ⟨_, e1, -⟩ := tw_bd h
  exact e1
set_option maxRecDepth 100000 in
set_option maxHeartbeats 4000000 in
theorem mX5_latestStart (l : Launch) (G : tw_G) {σ : tw_St} {a : Nat} {x1 : Int32} {q : Int32} (h : fX5_latestStart σ a x1 = some q) : tw_M l G yX5_latestStart cX5_latestStart 3 (some .int) rmX5_latestStart 0 0 σ [.ref a, .int x1] (some (.int q)) σ := by
  unfold fX5_latestStart at h
  obtain ⟨_, -, h⟩ := tw_bd h
  refine tw_M.of (by decide +kernel) (Nat.le_of_ble_eq_true rfl) (fun p e s m args below meth c hnm hO => ?_)
  have hO : tw_O p s m args meth c cX5_latestStart RX5 3 (some .int) G := hO
  refine tw_aload_n 0 hO dX5_latestStart_0 rfl rfl ?_
  obtain ⟨v1, e1, h⟩ := tw_bd h
  refine tw_getP hO dX5_latestStart_1 (t := 5) rfl 1 (by decide) rfl tw_w143 rfl e1 ?_
  refine tw_iload_n 1 hO dX5_latestStart_4 rfl rfl ?_
  obtain ⟨v5, e5, h⟩ := tw_bd h
  refine tw_iald hO dX5_latestStart_5 e5 ?_
  refine tw_istore_n (lv' := [(2, .int v5), (0, .ref a), (1, .int x1)]) hO dX5_latestStart_6 rfl (by decide) rfl ?_
  refine tw_iload_n 0 hO dX5_latestStart_7 rfl rfl ?_
  refine tw_if_le (tgt := 24) hO dX5_latestStart_8 (by decide) (fun cc => ?_) (fun cc => ?_)
  · replace h := tw_ifp cc h
    refine tw_bipush (v := (-6)) hO dX5_latestStart_24 (by decide) ?_
    exact tw_iretR hO dX5_latestStart_26 h
  · replace h := tw_ifn cc h
    refine tw_aload_n 1 hO dX5_latestStart_11 rfl rfl ?_
    obtain ⟨v12, e12, h⟩ := tw_bd h
    refine tw_getP hO dX5_latestStart_12 (t := 5) rfl 3 (by decide) rfl tw_w147 rfl e12 ?_
    refine tw_iload_n 2 hO dX5_latestStart_15 rfl rfl ?_
    obtain ⟨v16, e16, h⟩ := tw_bd h
    refine tw_aald hO dX5_latestStart_16 (by decide) (by decide) e16 ?_
    refine tw_iload_n 0 hO dX5_latestStart_17 rfl rfl ?_
    refine tw_iconst (v := 1) hO dX5_latestStart_18 (by decide) ?_
    refine tw_isub hO dX5_latestStart_19 ?_
    obtain ⟨v20, e20, h⟩ := tw_bd h
    refine tw_iald hO dX5_latestStart_20 e20 ?_
    refine tw_goto (tgt := 26) hO dX5_latestStart_21 (by decide) ?_
    exact tw_iretR hO dX5_latestStart_26 h
theorem cfX5_starterNow : tw_CF yX5_starterNow cX5_starterNow 6 (some .int) 1 := ⟨tw_w364, tw_w51, by decide +kernel, by decide +kernel, by decide +kernel⟩
theorem kX5_starterNow {σ : tw_St} {a : Nat} {x1 : Int32} {q : Int32} (h : fX5_starterNow σ a x1 = some q) : tw_is σ 5 a = some () := by
  unfold fX5_starterNow at h
  obtain ⟨_, e1, -⟩ := tw_bd h
  exact e1
set_option maxRecDepth 100000 in
set_option maxHeartbeats 4000000 in
theorem wX5_starterNow_b96 (hO : tw_O p s m args meth c cX5_starterNow RX5 6 (some .int) G) {σ : tw_St} {x2 : Int32} {x3 : Int32} {x4 : Int32} {x5 : Int32} {q : Int32} (h : fX5_starterNow_b96 σ x2 x3 x4 x5 = some q) : tw_X p l e rmX5_starterNow s m args below meth c 6 G σ 0 0 (tw_Q below args s G 0 0 (some (.int q)) σ) 96 [(2, .int x2), (3, .int x3), (4, .int x4), (5, .int x5)] [] := by
  unfold fX5_starterNow_b96 at h
  refine tw_iload 2 hO dX5_starterNow_96 rfl ?_
  refine tw_if_eq (tgt := 103) hO dX5_starterNow_98 (by decide) (fun cc => ?_) (fun cc => ?_)
  · replace h := tw_ifp cc h
    refine tw_iload 3 hO dX5_starterNow_103 rfl ?_
    refine tw_if_eq (tgt := 112) hO dX5_starterNow_105 (by decide) (fun cc => ?_) (fun cc => ?_)
    · replace h := tw_ifp cc h
      refine tw_bipush (v := (-6)) hO dX5_starterNow_112 (by decide) ?_
      exact tw_iretR hO dX5_starterNow_114 h
    · replace h := tw_ifn cc h
      refine tw_iload_n 1 hO dX5_starterNow_108 rfl rfl ?_
      refine tw_goto (tgt := 114) hO dX5_starterNow_109 (by decide) ?_
      exact tw_iretR hO dX5_starterNow_114 h
  · replace h := tw_ifn cc h
    refine tw_iload_n 0 hO dX5_starterNow_101 rfl rfl ?_
    exact tw_iretR hO dX5_starterNow_102 h
set_option maxRecDepth 100000 in
set_option maxHeartbeats 4000000 in
theorem wX5_starterNow_b52 (hO : tw_O p s m args meth c cX5_starterNow RX5 6 (some .int) G) {σ : tw_St} {a0 : Nat} {x2 : Int32} {x3 : Int32} {x4 : Int32} {z0 : Int32} {q : Int32} (h : fX5_starterNow_b52 σ a0 x2 x3 x4 z0 = some q) : tw_X p l e rmX5_starterNow s m args below meth c 6 G σ 0 0 (tw_Q below args s G 0 0 (some (.int q)) σ) 52 [(0, .ref a0), (2, .int x2), (3, .int x3), (4, .int x4)] [.int z0] := by
  unfold fX5_starterNow_b52 at h
  refine tw_istore (lv' := [(5, .int z0), (0, .ref a0), (2, .int x2), (3, .int x3), (4, .int x4)]) hO dX5_starterNow_52 (by decide) rfl ?_
  refine tw_iload 4 hO dX5_starterNow_54 rfl ?_
  refine tw_if_eq (tgt := 96) hO dX5_starterNow_56 (by decide) (fun cc => ?_) (fun cc => ?_)
  · replace h := tw_ifp cc h
    refine tw_sub [2, 3, 4, 0] rfl ?_
    exact wX5_starterNow_b96 hO h
  · replace h := tw_ifn cc h
    refine tw_iload 0 hO dX5_starterNow_59 rfl ?_
    refine tw_if_eq (tgt := 96) hO dX5_starterNow_61 (by decide) (fun cc => ?_) (fun cc => ?_)
    · replace h := tw_ifp cc h
      refine tw_sub [2, 3, 4, 0] rfl ?_
      exact wX5_starterNow_b96 hO h
    · replace h := tw_ifn cc h
      refine tw_aload_n 1 hO dX5_starterNow_64 rfl rfl ?_
      obtain ⟨v65, e65, h⟩ := tw_bd h
      refine tw_getP hO dX5_starterNow_65 (t := 5) rfl 6 (by decide) rfl tw_w153 rfl e65 ?_
      obtain ⟨v68, e68, h⟩ := tw_bd h
      refine tw_getP hO dX5_starterNow_68 (t := 6) rfl 0 (by decide) rfl tw_w95 rfl e68 ?_
      refine tw_iconst (v := 0) hO dX5_starterNow_71 (by decide) ?_
      obtain ⟨v72, e72, h⟩ := tw_bd h
      refine tw_iald hO dX5_starterNow_72 e72 ?_
      refine tw_iconst (v := 2) hO dX5_starterNow_73 (by decide) ?_
      refine tw_icmp_ne (tgt := 96) hO dX5_starterNow_74 (by decide) (fun cc => ?_) (fun cc => ?_)
      · replace h := tw_ifn cc h
        refine tw_sub [2, 3, 4, 0] rfl ?_
        exact wX5_starterNow_b96 hO h
      · replace h := tw_ifp cc h
        refine tw_aload_n 1 hO dX5_starterNow_77 rfl rfl ?_
        refine tw_iload_n 3 hO dX5_starterNow_78 rfl rfl ?_
        obtain ⟨v79, e79, h⟩ := tw_bd h
        refine tw_cVi hO (mX5_latestStart l G e79) cfX5_latestStart (t := 5) rfl (kX5_latestStart e79) tw_w366 tw_w367 tw_w368 rfl rfl rfl rfl ⟨(Nat.le_of_ble_eq_true rfl), (Nat.le_of_ble_eq_true rfl)⟩ (Nat.le_of_ble_eq_true rfl) ⟨(Nat.le_of_ble_eq_true rfl), (Nat.le_of_ble_eq_true rfl)⟩ dX5_starterNow_79 ?_
        refine tw_aload_n 1 hO dX5_starterNow_82 rfl rfl ?_
        refine tw_iload_n 2 hO dX5_starterNow_83 rfl rfl ?_
        obtain ⟨v84, e84, h⟩ := tw_bd h
        refine tw_cVi hO (mX5_latestStart l G e84) cfX5_latestStart (t := 5) rfl (kX5_latestStart e84) tw_w366 tw_w367 tw_w368 rfl rfl rfl rfl ⟨(Nat.le_of_ble_eq_true rfl), (Nat.le_of_ble_eq_true rfl)⟩ (Nat.le_of_ble_eq_true rfl) ⟨(Nat.le_of_ble_eq_true rfl), (Nat.le_of_ble_eq_true rfl)⟩ dX5_starterNow_84 ?_
        refine tw_icmp_ge (tgt := 94) hO dX5_starterNow_87 (by decide) (fun cc => ?_) (fun cc => ?_)
        · replace h := tw_ifp cc h
          refine tw_iload_n 2 hO dX5_starterNow_94 rfl rfl ?_
          exact tw_iretR hO dX5_starterNow_95 h
        · replace h := tw_ifn cc h
          refine tw_iload_n 3 hO dX5_starterNow_90 rfl rfl ?_
          refine tw_goto (tgt := 95) hO dX5_starterNow_91 (by decide) ?_
          exact tw_iretR hO dX5_starterNow_95 h
set_option maxRecDepth 100000 in
set_option maxHeartbeats 4000000 in
theorem wX5_starterNow_b51 (hO : tw_O p s m args meth c cX5_starterNow RX5 6 (some .int) G) {σ : tw_St} {a0 : Nat} {x2 : Int32} {x3 : Int32} {x4 : Int32} {q : Int32} (h : fX5_starterNow_b51 σ a0 x2 x3 x4 = some q) : tw_X p l e rmX5_starterNow s m args below meth c 6 G σ 0 0 (tw_Q below args s G 0 0 (some (.int q)) σ) 51 [(0, .ref a0), (2, .int x2), (3, .int x3), (4, .int x4)] [] := by
  unfold fX5_starterNow_b51 at h
  refine tw_iconst (v := 0) hO dX5_starterNow_51 (by decide) ?_
  exact wX5_starterNow_b52 hO h
set_option maxRecDepth 100000 in
set_option maxHeartbeats 4000000 in
theorem wX5_starterNow_b24 (hO : tw_O p s m args meth c cX5_starterNow RX5 6 (some .int) G) {σ : tw_St} {a0 : Nat} {x2 : Int32} {x3 : Int32} {z0 : Int32} {q : Int32} (h : fX5_starterNow_b24 σ a0 x2 x3 z0 = some q) : tw_X p l e rmX5_starterNow s m args below meth c 6 G σ 0 0 (tw_Q below args s G 0 0 (some (.int q)) σ) 24 [(0, .ref a0), (2, .int x2), (3, .int x3)] [.int z0] := by
  unfold fX5_starterNow_b24 at h
  refine tw_istore (lv' := [(4, .int z0), (0, .ref a0), (2, .int x2), (3, .int x3)]) hO dX5_starterNow_24 (by decide) rfl ?_
  refine tw_aload_n 1 hO dX5_starterNow_26 rfl rfl ?_
  obtain ⟨v27, e27, h⟩ := tw_bd h
  refine tw_getP hO dX5_starterNow_27 (t := 5) rfl 7 (by decide) rfl tw_w154 rfl e27 ?_
  refine tw_iload_n 3 hO dX5_starterNow_30 rfl rfl ?_
  obtain ⟨v31, e31, h⟩ := tw_bd h
  refine tw_iald hO dX5_starterNow_31 e31 ?_
  refine tw_if_ne (tgt := 51) hO dX5_starterNow_32 (by decide) (fun cc => ?_) (fun cc => ?_)
  · replace h := tw_ifn cc h
    refine tw_sub [1, 2, 3, 0] rfl ?_
    exact wX5_starterNow_b51 hO h
  · replace h := tw_ifp cc h
    refine tw_aload_n 1 hO dX5_starterNow_35 rfl rfl ?_
    obtain ⟨v36, e36, h⟩ := tw_bd h
    refine tw_getP hO dX5_starterNow_36 (t := 5) rfl 6 (by decide) rfl tw_w153 rfl e36 ?_
    obtain ⟨v39, e39, h⟩ := tw_bd h
    refine tw_getP hO dX5_starterNow_39 (t := 6) rfl 0 (by decide) rfl tw_w95 rfl e39 ?_
    refine tw_iconst (v := 0) hO dX5_starterNow_42 (by decide) ?_
    obtain ⟨v43, e43, h⟩ := tw_bd h
    refine tw_iald hO dX5_starterNow_43 e43 ?_
    refine tw_if_eq (tgt := 51) hO dX5_starterNow_44 (by decide) (fun cc => ?_) (fun cc => ?_)
    · replace h := tw_ifp cc h
      refine tw_sub [1, 2, 3, 0] rfl ?_
      exact wX5_starterNow_b51 hO h
    · replace h := tw_ifn cc h
      refine tw_iconst (v := 1) hO dX5_starterNow_47 (by decide) ?_
      refine tw_goto (tgt := 52) hO dX5_starterNow_48 (by decide) ?_
      refine tw_sub [1, 2, 3, 0] rfl ?_
      exact wX5_starterNow_b52 hO h
set_option maxRecDepth 100000 in
set_option maxHeartbeats 4000000 in
theorem mX5_starterNow (l : Launch) (G : tw_G) {σ : tw_St} {a : Nat} {x1 : Int32} {q : Int32} (h : fX5_starterNow σ a x1 = some q) : tw_M l G yX5_starterNow cX5_starterNow 6 (some .int) rmX5_starterNow 0 0 σ [.ref a, .int x1] (some (.int q)) σ := by
  unfold fX5_starterNow at h
  obtain ⟨_, -, h⟩ := tw_bd h
  refine tw_M.of (by decide +kernel) (Nat.le_of_ble_eq_true rfl) (fun p e s m args below meth c hnm hO => ?_)
  have hO : tw_O p s m args meth c cX5_starterNow RX5 6 (some .int) G := hO
  refine tw_iload_n 1 hO dX5_starterNow_0 rfl rfl ?_
  refine tw_iconst (v := 2) hO dX5_starterNow_1 (by decide) ?_
  obtain ⟨v2, e2, h⟩ := tw_bd h
  refine tw_cSi hO (mJ9_floorMod l G e2) cfJ9_floorMod tw_w365 tw_w326 rfl rfl rfl rfl ⟨(Nat.le_of_ble_eq_true rfl), (Nat.le_of_ble_eq_true rfl)⟩ (Nat.le_of_ble_eq_true rfl) ⟨(Nat.le_of_ble_eq_true rfl), (Nat.le_of_ble_eq_true rfl)⟩ dX5_starterNow_2 ?_
  refine tw_istore_n (lv' := [(2, .int v2), (0, .ref a), (1, .int x1)]) hO dX5_starterNow_5 rfl (by decide) rfl ?_
  refine tw_iconst (v := 1) hO dX5_starterNow_6 (by decide) ?_
  refine tw_iload_n 0 hO dX5_starterNow_7 rfl rfl ?_
  refine tw_isub hO dX5_starterNow_8 ?_
  refine tw_istore_n (lv' := [(3, .int (1 - v2)), (2, .int v2), (0, .ref a), (1, .int x1)]) hO dX5_starterNow_9 rfl (by decide) rfl ?_
  refine tw_aload_n 2 hO dX5_starterNow_10 rfl rfl ?_
  obtain ⟨v11, e11, h⟩ := tw_bd h
  refine tw_getP hO dX5_starterNow_11 (t := 5) rfl 7 (by decide) rfl tw_w154 rfl e11 ?_
  refine tw_iload_n 1 hO dX5_starterNow_14 rfl rfl ?_
  obtain ⟨v15, e15, h⟩ := tw_bd h
  refine tw_iald hO dX5_starterNow_15 e15 ?_
  refine tw_if_ne (tgt := 23) hO dX5_starterNow_16 (by decide) (fun cc => ?_) (fun cc => ?_)
  · replace h := tw_ifn cc h
    refine tw_iconst (v := 0) hO dX5_starterNow_23 (by decide) ?_
    refine tw_sub [2, 1, 0] rfl ?_
    exact wX5_starterNow_b24 hO h
  · replace h := tw_ifp cc h
    refine tw_iconst (v := 1) hO dX5_starterNow_19 (by decide) ?_
    refine tw_goto (tgt := 24) hO dX5_starterNow_20 (by decide) ?_
    refine tw_sub [2, 1, 0] rfl ?_
    exact wX5_starterNow_b24 hO h
theorem cfX5_start : tw_CF yX5_start cX5_start 8 none 2 := ⟨tw_w373, tw_w51, by decide +kernel, by decide +kernel, by decide +kernel⟩
theorem kX5_start {σ : tw_St} {a : Nat} {x1 : Int32} {x2 : Int32} {q : tw_St} (h : fX5_start σ a x1 x2 = some q) : tw_is σ 5 a = some () := by
  unfold fX5_start at h
  obtain ⟨_, e1, -⟩ := tw_bd h
  exact e1
set_option maxRecDepth 100000 in
set_option maxHeartbeats 4000000 in
theorem wX5_start_b132 (hO : tw_O p s m args meth c cX5_start RX5 8 none G) {σ : tw_St} {a0 : Nat} {x1 : Int32} {x5 : Int32} {x6 : Int32} {q : tw_St} (h : fX5_start_b132 σ a0 x1 x5 x6 = some q) : tw_X p l e rmX5_start s m args below meth c 8 G σ 0 0 (tw_Q below args s G 0 0 none q) 132 [(0, .ref a0), (1, .int x1), (5, .int x5), (6, .int x6)] [] := by
  unfold fX5_start_b132 at h
  refine tw_iload 2 hO dX5_start_132 rfl ?_
  refine tw_bipush (v := (-6)) hO dX5_start_134 (by decide) ?_
  refine tw_icmp_eq (tgt := 156) hO dX5_start_136 (by decide) (fun cc => ?_) (fun cc => ?_)
  · replace h := tw_ifp cc h
    exact tw_vret hO dX5_start_156 h
  · replace h := tw_ifn cc h
    refine tw_aload_n 0 hO dX5_start_139 rfl rfl ?_
    obtain ⟨v140, e140, h⟩ := tw_bd h
    refine tw_getP hO dX5_start_140 (t := 5) rfl 9 (by decide) rfl tw_w156 rfl e140 ?_
    refine tw_iload 2 hO dX5_start_143 rfl ?_
    refine tw_iload 3 hO dX5_start_145 rfl ?_
    obtain ⟨σ147, e147, h⟩ := tw_bd h
    refine tw_iast hO dX5_start_147 e147 ?_
    refine tw_aload_n 0 hO dX5_start_148 rfl rfl ?_
    obtain ⟨v149, e149, h⟩ := tw_bd h
    refine tw_getP hO dX5_start_149 (t := 5) rfl 10 (by decide) rfl tw_w157 rfl e149 ?_
    refine tw_iload 2 hO dX5_start_152 rfl ?_
    refine tw_iload_n 1 hO dX5_start_154 rfl rfl ?_
    obtain ⟨σ155, e155, h⟩ := tw_bd h
    refine tw_iast hO dX5_start_155 e155 ?_
    exact tw_vret hO dX5_start_156 h
set_option maxRecDepth 100000 in
set_option maxHeartbeats 4000000 in
theorem mX5_start (l : Launch) (G : tw_G) {σ : tw_St} {a : Nat} {x1 : Int32} {x2 : Int32} {q : tw_St} (h : fX5_start σ a x1 x2 = some q) : tw_M l G yX5_start cX5_start 8 none rmX5_start 0 0 σ [.ref a, .int x1, .int x2] none q := by
  unfold fX5_start at h
  obtain ⟨_, -, h⟩ := tw_bd h
  refine tw_M.of (by decide +kernel) (Nat.le_of_ble_eq_true rfl) (fun p e s m args below meth c hnm hO => ?_)
  have hO : tw_O p s m args meth c cX5_start RX5 8 none G := hO
  refine tw_aload_n 0 hO dX5_start_0 rfl rfl ?_
  obtain ⟨v1, e1, h⟩ := tw_bd h
  refine tw_getP hO dX5_start_1 (t := 5) rfl 1 (by decide) rfl tw_w143 rfl e1 ?_
  refine tw_iload_n 1 hO dX5_start_4 rfl rfl ?_
  obtain ⟨v5, e5, h⟩ := tw_bd h
  refine tw_iald hO dX5_start_5 e5 ?_
  refine tw_istore_n (lv' := [(3, .int v5), (0, .ref a), (1, .int x1), (2, .int x2)]) hO dX5_start_6 rfl (by decide) rfl ?_
  refine tw_aload_n 1 hO dX5_start_7 rfl rfl ?_
  obtain ⟨v8, e8, h⟩ := tw_bd h
  refine tw_getP hO dX5_start_8 (t := 5) rfl 0 (by decide) rfl tw_w141 rfl e8 ?_
  refine tw_iload_n 2 hO dX5_start_11 rfl rfl ?_
  obtain ⟨v12, e12, h⟩ := tw_bd h
  refine tw_aald hO dX5_start_12 (by decide) (by decide) e12 ?_
  obtain ⟨v13, e13, h⟩ := tw_bd h
  refine tw_getP hO dX5_start_13 (t := 2) rfl 2 (by decide) rfl tw_w127 rfl e13 ?_
  refine tw_iload_n 0 hO dX5_start_16 rfl rfl ?_
  obtain ⟨v17, e17, h⟩ := tw_bd h
  refine tw_iald hO dX5_start_17 e17 ?_
  refine tw_istore (lv' := [(4, .int v17), (3, .int v5), (0, .ref a), (1, .int x1), (2, .int x2)]) hO dX5_start_18 (by decide) rfl ?_
  refine tw_aload_n 2 hO dX5_start_20 rfl rfl ?_
  obtain ⟨v21, e21, h⟩ := tw_bd h
  refine tw_getP hO dX5_start_21 (t := 5) rfl 6 (by decide) rfl tw_w153 rfl e21 ?_
  obtain ⟨v24, e24, h⟩ := tw_bd h
  refine tw_getP hO dX5_start_24 (t := 6) rfl 1 (by decide) rfl tw_w97 rfl e24 ?_
  refine tw_iload_n 3 hO dX5_start_27 rfl rfl ?_
  obtain ⟨v28, e28, h⟩ := tw_bd h
  refine tw_aald hO dX5_start_28 (by decide) (by decide) e28 ?_
  refine tw_iload 0 hO dX5_start_29 rfl ?_
  obtain ⟨v31, e31, h⟩ := tw_bd h
  refine tw_cVi hO (mX3_roomOf l G e31) cfX3_roomOf (t := 3) rfl (kX3_roomOf e31) tw_w356 tw_w357 tw_w358 rfl rfl rfl rfl ⟨(Nat.le_of_ble_eq_true rfl), (Nat.le_of_ble_eq_true rfl)⟩ (Nat.le_of_ble_eq_true rfl) ⟨(Nat.le_of_ble_eq_true rfl), (Nat.le_of_ble_eq_true rfl)⟩ dX5_start_31 ?_
  refine tw_istore (lv' := [(5, .int v31), (4, .int v17), (3, .int v5), (0, .ref a), (1, .int x1), (2, .int x2)]) hO dX5_start_34 (by decide) rfl ?_
  refine tw_iload_n 5 hO dX5_start_36 rfl rfl ?_
  refine tw_aload_n 3 hO dX5_start_37 rfl rfl ?_
  obtain ⟨v38, e38, h⟩ := tw_bd h
  refine tw_getP hO dX5_start_38 (t := 5) rfl 6 (by decide) rfl tw_w153 rfl e38 ?_
  refine tw_iload 0 hO dX5_start_41 rfl ?_
  obtain ⟨v43, e43, h⟩ := tw_bd h
  refine tw_cVi hO (mX6_ticksFor l G e43) cfX6_ticksFor (t := 6) rfl (kX6_ticksFor e43) tw_w374 tw_w375 tw_w376 rfl rfl rfl rfl ⟨(Nat.le_of_ble_eq_true rfl), (Nat.le_of_ble_eq_true rfl)⟩ (Nat.le_of_ble_eq_true rfl) ⟨(Nat.le_of_ble_eq_true rfl), (Nat.le_of_ble_eq_true rfl)⟩ dX5_start_43 ?_
  refine tw_iadd hO dX5_start_46 ?_
  refine tw_istore (lv' := [(6, .int (x2 + v43)), (5, .int v31), (4, .int v17), (3, .int v5), (0, .ref a), (1, .int x1), (2, .int x2)]) hO dX5_start_47 (by decide) rfl ?_
  refine tw_aload_n 4 hO dX5_start_49 rfl rfl ?_
  obtain ⟨v50, e50, h⟩ := tw_bd h
  refine tw_getP hO dX5_start_50 (t := 5) rfl 3 (by decide) rfl tw_w147 rfl e50 ?_
  refine tw_iload_n 5 hO dX5_start_53 rfl rfl ?_
  obtain ⟨v54, e54, h⟩ := tw_bd h
  refine tw_aald hO dX5_start_54 (by decide) (by decide) e54 ?_
  refine tw_iload_n 3 hO dX5_start_55 rfl rfl ?_
  refine tw_iload_n 6 hO dX5_start_56 rfl rfl ?_
  obtain ⟨σ57, e57, h⟩ := tw_bd h
  refine tw_iast hO dX5_start_57 e57 ?_
  refine tw_aload_n 4 hO dX5_start_58 rfl rfl ?_
  obtain ⟨v59, e59, h⟩ := tw_bd h
  refine tw_getP hO dX5_start_59 (t := 5) rfl 4 (by decide) rfl tw_w149 rfl e59 ?_
  refine tw_iload_n 5 hO dX5_start_62 rfl rfl ?_
  obtain ⟨v63, e63, h⟩ := tw_bd h
  refine tw_aald hO dX5_start_63 (by decide) (by decide) e63 ?_
  refine tw_iload_n 3 hO dX5_start_64 rfl rfl ?_
  refine tw_iload 0 hO dX5_start_65 rfl ?_
  obtain ⟨σ67, e67, h⟩ := tw_bd h
  refine tw_iast hO dX5_start_67 e67 ?_
  refine tw_aload_n 4 hO dX5_start_68 rfl rfl ?_
  obtain ⟨v69, e69, h⟩ := tw_bd h
  refine tw_getP hO dX5_start_69 (t := 5) rfl 1 (by decide) rfl tw_w143 rfl e69 ?_
  refine tw_iload_n 5 hO dX5_start_72 rfl rfl ?_
  refine tw_iload_n 3 hO dX5_start_73 rfl rfl ?_
  refine tw_iconst (v := 1) hO dX5_start_74 (by decide) ?_
  refine tw_iadd hO dX5_start_75 ?_
  obtain ⟨σ76, e76, h⟩ := tw_bd h
  refine tw_iast hO dX5_start_76 e76 ?_
  refine tw_aload_n 4 hO dX5_start_77 rfl rfl ?_
  obtain ⟨v78, e78, h⟩ := tw_bd h
  refine tw_getP hO dX5_start_78 (t := 5) rfl 2 (by decide) rfl tw_w145 rfl e78 ?_
  refine tw_iload_n 5 hO dX5_start_81 rfl rfl ?_
  refine tw_aload_n 4 hO dX5_start_82 rfl rfl ?_
  obtain ⟨v83, e83, h⟩ := tw_bd h
  refine tw_getP hO dX5_start_83 (t := 5) rfl 2 (by decide) rfl tw_w145 rfl e83 ?_
  refine tw_iload_n 5 hO dX5_start_86 rfl rfl ?_
  obtain ⟨v87, e87, h⟩ := tw_bd h
  refine tw_iald hO dX5_start_87 e87 ?_
  refine tw_iload 0 hO dX5_start_88 rfl ?_
  obtain ⟨v90, e90, h⟩ := tw_bd h
  refine tw_cSi hO (mJ9_max l G e90) cfJ9_max tw_w378 tw_w379 rfl rfl rfl rfl ⟨(Nat.le_of_ble_eq_true rfl), (Nat.le_of_ble_eq_true rfl)⟩ (Nat.le_of_ble_eq_true rfl) ⟨(Nat.le_of_ble_eq_true rfl), (Nat.le_of_ble_eq_true rfl)⟩ dX5_start_90 ?_
  obtain ⟨σ93, e93, h⟩ := tw_bd h
  refine tw_iast hO dX5_start_93 e93 ?_
  refine tw_aload_n 4 hO dX5_start_94 rfl rfl ?_
  obtain ⟨v95, e95, h⟩ := tw_bd h
  refine tw_getP hO dX5_start_95 (t := 5) rfl 6 (by decide) rfl tw_w153 rfl e95 ?_
  obtain ⟨v98, e98, h⟩ := tw_bd h
  refine tw_getP hO dX5_start_98 (t := 6) rfl 1 (by decide) rfl tw_w97 rfl e98 ?_
  refine tw_iload_n 5 hO dX5_start_101 rfl rfl ?_
  obtain ⟨v102, e102, h⟩ := tw_bd h
  refine tw_aald hO dX5_start_102 (by decide) (by decide) e102 ?_
  refine tw_iload 2 hO dX5_start_103 rfl ?_
  obtain ⟨v105, e105, h⟩ := tw_bd h
  refine tw_cVi hO (mX3_givenBy l G e105) cfX3_givenBy (t := 3) rfl (kX3_givenBy e105) tw_w381 tw_w382 tw_w383 rfl rfl rfl rfl ⟨(Nat.le_of_ble_eq_true rfl), (Nat.le_of_ble_eq_true rfl)⟩ (Nat.le_of_ble_eq_true rfl) ⟨(Nat.le_of_ble_eq_true rfl), (Nat.le_of_ble_eq_true rfl)⟩ dX5_start_105 ?_
  refine tw_istore (lv' := [(7, .int v105), (6, .int (x2 + v43)), (5, .int v31), (4, .int v17), (3, .int v5), (0, .ref a), (1, .int x1), (2, .int x2)]) hO dX5_start_108 (by decide) rfl ?_
  refine tw_iload 0 hO dX5_start_110 rfl ?_
  refine tw_if_lt (tgt := 132) hO dX5_start_112 (by decide) (fun cc => ?_) (fun cc => ?_)
  · replace h := tw_ifp cc h
    refine tw_sub [5, 6, 2, 1] rfl ?_
    exact wX5_start_b132 hO h
  · replace h := tw_ifn cc h
    refine tw_iload 0 hO dX5_start_115 rfl ?_
    refine tw_iconst (v := 4) hO dX5_start_117 (by decide) ?_
    refine tw_icmp_ge (tgt := 132) hO dX5_start_118 (by decide) (fun cc => ?_) (fun cc => ?_)
    · replace h := tw_ifp cc h
      refine tw_sub [5, 6, 2, 1] rfl ?_
      exact wX5_start_b132 hO h
    · replace h := tw_ifn cc h
      refine tw_aload_n 5 hO dX5_start_121 rfl rfl ?_
      obtain ⟨v122, e122, h⟩ := tw_bd h
      refine tw_getP hO dX5_start_122 (t := 5) rfl 8 (by decide) rfl tw_w155 rfl e122 ?_
      refine tw_iload_n 6 hO dX5_start_125 rfl rfl ?_
      obtain ⟨v126, e126, h⟩ := tw_bd h
      refine tw_aald hO dX5_start_126 (by decide) (by decide) e126 ?_
      refine tw_iload 0 hO dX5_start_127 rfl ?_
      refine tw_iload 1 hO dX5_start_129 rfl ?_
      obtain ⟨σ131, e131, h⟩ := tw_bd h
      refine tw_iast hO dX5_start_131 e131 ?_
      refine tw_sub [5, 6, 2, 1] rfl ?_
      exact wX5_start_b132 hO h
theorem cfX5_playTick : tw_CF yX5_playTick cX5_playTick 5 none 1 := ⟨tw_w346, tw_w51, by decide +kernel, by decide +kernel, by decide +kernel⟩
theorem kX5_playTick {σ : tw_St} {a : Nat} {x1 : Int32} {q : tw_St} (h : fX5_playTick σ a x1 = some q) : tw_is σ 5 a = some () := by
  unfold fX5_playTick at h
  obtain ⟨_, e1, -⟩ := tw_bd h
  exact e1
set_option maxRecDepth 100000 in
set_option maxHeartbeats 4000000 in
theorem wX5_playTick_b87 (hO : tw_O p s m args meth c cX5_playTick RX5 5 none G) {σ : tw_St} {a0 : Nat} {x1 : Int32} {x2 : Int32} {q : tw_St} (h : fX5_playTick_b87 σ a0 x1 x2 = some q) : tw_X p l e rmX5_playTick s m args below meth c 5 G σ 0 0 (tw_Q below args s G 0 0 none q) 87 [(0, .ref a0), (1, .int x1), (2, .int x2)] [] := by
  unfold fX5_playTick_b87 at h
  refine tw_iload_n 2 hO dX5_playTick_87 rfl rfl ?_
  refine tw_bipush (v := (-6)) hO dX5_playTick_88 (by decide) ?_
  refine tw_icmp_eq (tgt := 99) hO dX5_playTick_90 (by decide) (fun cc => ?_) (fun cc => ?_)
  · replace h := tw_ifp cc h
    exact tw_vret hO dX5_playTick_99 h
  · replace h := tw_ifn cc h
    refine tw_aload_n 0 hO dX5_playTick_93 rfl rfl ?_
    refine tw_iload_n 2 hO dX5_playTick_94 rfl rfl ?_
    refine tw_iload_n 1 hO dX5_playTick_95 rfl rfl ?_
    obtain ⟨σ96, e96, h⟩ := tw_bd h
    refine tw_cVv hO (mX5_start l G e96) cfX5_start (t := 5) rfl (kX5_start e96) tw_w370 tw_w372 tw_w9 rfl rfl rfl rfl ⟨(Nat.le_of_ble_eq_true rfl), (Nat.le_of_ble_eq_true rfl)⟩ (Nat.le_of_ble_eq_true rfl) ⟨(Nat.le_of_ble_eq_true rfl), (Nat.le_of_ble_eq_true rfl)⟩ dX5_playTick_96 ?_
    exact tw_vret hO dX5_playTick_99 h
set_option maxRecDepth 100000 in
set_option maxHeartbeats 4000000 in
theorem wX5_playTick_b81 (hO : tw_O p s m args meth c cX5_playTick RX5 5 none G) {k33 : (tw_St → Nat → Int32 → Int32 → Int32 → Option (tw_St))} (hk33 : ∀ (σ : tw_St) (a0 : Nat) (x1 : Int32) (x2 : Int32) (x3 : Int32) (q : tw_St), k33 σ a0 x1 x2 x3 = some q → tw_X p l e rmX5_playTick s m args below meth c 5 G σ 0 0 (tw_Q below args s G 0 0 none q) 33 [(0, .ref a0), (1, .int x1), (2, .int x2), (3, .int x3)] []) {σ : tw_St} {a0 : Nat} {x1 : Int32} {x2 : Int32} {x3 : Int32} {q : tw_St} (h : fX5_playTick_b81 k33 σ a0 x1 x2 x3 = some q) : tw_X p l e rmX5_playTick s m args below meth c 5 G σ 0 0 (tw_Q below args s G 0 0 none q) 81 [(0, .ref a0), (1, .int x1), (2, .int x2), (3, .int x3)] [] := by
  unfold fX5_playTick_b81 at h
  refine tw_iinc (q := 3) (v := (x3 + 1)) (lv' := [(3, .int (x3 + 1)), (0, .ref a0), (1, .int x1), (2, .int x2)]) hO dX5_playTick_81 rfl rfl (by decide) rfl ?_
  refine tw_goto (tgt := 33) hO dX5_playTick_84 (by decide) ?_
  refine tw_sub [1, 2, 3, 0] rfl ?_
  exact hk33 _ _ _ _ _ _ h
set_option maxRecDepth 100000 in
set_option maxHeartbeats 4000000 in
theorem wX5_playTick_b76 (hO : tw_O p s m args meth c cX5_playTick RX5 5 none G) {k33 : (tw_St → Nat → Int32 → Int32 → Int32 → Option (tw_St))} (hk33 : ∀ (σ : tw_St) (a0 : Nat) (x1 : Int32) (x2 : Int32) (x3 : Int32) (q : tw_St), k33 σ a0 x1 x2 x3 = some q → tw_X p l e rmX5_playTick s m args below meth c 5 G σ 0 0 (tw_Q below args s G 0 0 none q) 33 [(0, .ref a0), (1, .int x1), (2, .int x2), (3, .int x3)] []) {σ : tw_St} {a0 : Nat} {x1 : Int32} {x2 : Int32} {x3 : Int32} {z0 : Int32} {z1 : Nat} {q : tw_St} (h : fX5_playTick_b76 k33 σ a0 x1 x2 x3 z0 z1 = some q) : tw_X p l e rmX5_playTick s m args below meth c 5 G σ 0 0 (tw_Q below args s G 0 0 none q) 76 [(0, .ref a0), (1, .int x1), (2, .int x2), (3, .int x3)] [.int z0, .ref z1] := by
  unfold fX5_playTick_b76 at h
  refine tw_dup2 hO dX5_playTick_76 rfl rfl ?_
  obtain ⟨v77, e77, h⟩ := tw_bd h
  refine tw_iald hO dX5_playTick_77 e77 ?_
  refine tw_iconst (v := 1) hO dX5_playTick_78 (by decide) ?_
  refine tw_iadd hO dX5_playTick_79 ?_
  obtain ⟨σ80, e80, h⟩ := tw_bd h
  refine tw_iast hO dX5_playTick_80 e80 ?_
  exact wX5_playTick_b81 hO hk33 h
set_option maxRecDepth 100000 in
set_option maxHeartbeats 4000000 in
theorem wX5_playTick_h33 (hO : tw_O p s m args meth c cX5_playTick RX5 5 none G) {k33 : (tw_St → Nat → Int32 → Int32 → Int32 → Option (tw_St))} (hk33 : ∀ (σ : tw_St) (a0 : Nat) (x1 : Int32) (x2 : Int32) (x3 : Int32) (q : tw_St), k33 σ a0 x1 x2 x3 = some q → tw_X p l e rmX5_playTick s m args below meth c 5 G σ 0 0 (tw_Q below args s G 0 0 none q) 33 [(0, .ref a0), (1, .int x1), (2, .int x2), (3, .int x3)] []) {σ : tw_St} {a0 : Nat} {x1 : Int32} {x2 : Int32} {x3 : Int32} {q : tw_St} (h : fX5_playTick_h33 k33 σ a0 x1 x2 x3 = some q) : tw_X p l e rmX5_playTick s m args below meth c 5 G σ 0 0 (tw_Q below args s G 0 0 none q) 33 [(0, .ref a0), (1, .int x1), (2, .int x2), (3, .int x3)] [] := by
  unfold fX5_playTick_h33 at h
  refine tw_iload_n 3 hO dX5_playTick_33 rfl rfl ?_
  refine tw_iconst (v := 2) hO dX5_playTick_34 (by decide) ?_
  refine tw_icmp_ge (tgt := 87) hO dX5_playTick_35 (by decide) (fun cc => ?_) (fun cc => ?_)
  · replace h := tw_ifp cc h
    refine tw_sub [0, 1, 2] rfl ?_
    exact wX5_playTick_b87 hO h
  · replace h := tw_ifn cc h
    refine tw_iload_n 3 hO dX5_playTick_38 rfl rfl ?_
    refine tw_iload_n 2 hO dX5_playTick_39 rfl rfl ?_
    refine tw_icmp_eq (tgt := 81) hO dX5_playTick_40 (by decide) (fun cc => ?_) (fun cc => ?_)
    · replace h := tw_ifp cc h
      exact wX5_playTick_b81 hO hk33 h
    · replace h := tw_ifn cc h
      refine tw_aload_n 0 hO dX5_playTick_43 rfl rfl ?_
      refine tw_iload_n 3 hO dX5_playTick_44 rfl rfl ?_
      obtain ⟨v45, e45, h⟩ := tw_bd h
      refine tw_cVi hO (mX5_hasStep l G e45) cfX5_hasStep (t := 5) rfl (kX5_hasStep e45) tw_w339 tw_w341 tw_w4 rfl rfl rfl rfl ⟨(Nat.le_of_ble_eq_true rfl), (Nat.le_of_ble_eq_true rfl)⟩ (Nat.le_of_ble_eq_true rfl) ⟨(Nat.le_of_ble_eq_true rfl), (Nat.le_of_ble_eq_true rfl)⟩ dX5_playTick_45 ?_
      refine tw_if_eq (tgt := 81) hO dX5_playTick_48 (by decide) (fun cc => ?_) (fun cc => ?_)
      · replace h := tw_ifp cc h
        exact wX5_playTick_b81 hO hk33 h
      · replace h := tw_ifn cc h
        refine tw_aload_n 0 hO dX5_playTick_51 rfl rfl ?_
        obtain ⟨v52, e52, h⟩ := tw_bd h
        refine tw_getP hO dX5_playTick_52 (t := 5) rfl 7 (by decide) rfl tw_w154 rfl e52 ?_
        refine tw_iload_n 3 hO dX5_playTick_55 rfl rfl ?_
        obtain ⟨v56, e56, h⟩ := tw_bd h
        refine tw_iald hO dX5_playTick_56 e56 ?_
        refine tw_istore (lv' := [(4, .int v56), (0, .ref a0), (1, .int x1), (2, .int x2), (3, .int x3)]) hO dX5_playTick_57 (by decide) rfl ?_
        refine tw_aload_n 1 hO dX5_playTick_59 rfl rfl ?_
        obtain ⟨v60, e60, h⟩ := tw_bd h
        refine tw_getP hO dX5_playTick_60 (t := 5) rfl 5 (by decide) rfl tw_w151 rfl e60 ?_
        refine tw_iload_n 4 hO dX5_playTick_63 rfl rfl ?_
        obtain ⟨v64, e64, h⟩ := tw_bd h
        refine tw_aald hO dX5_playTick_64 (by decide) (by decide) e64 ?_
        refine tw_iload 0 hO dX5_playTick_65 rfl ?_
        refine tw_if_ne (tgt := 74) hO dX5_playTick_67 (by decide) (fun cc => ?_) (fun cc => ?_)
        · replace h := tw_ifn cc h
          refine tw_iload 0 hO dX5_playTick_74 rfl ?_
          refine tw_sub [1, 2, 3, 4] rfl ?_
          exact wX5_playTick_b76 hO hk33 h
        · replace h := tw_ifp cc h
          refine tw_iconst (v := 4) hO dX5_playTick_70 (by decide) ?_
          refine tw_goto (tgt := 76) hO dX5_playTick_71 (by decide) ?_
          refine tw_sub [1, 2, 3, 4] rfl ?_
          exact wX5_playTick_b76 hO hk33 h
set_option maxRecDepth 100000 in
set_option maxHeartbeats 4000000 in
theorem wX5_playTick_l33 (hO : tw_O p s m args meth c cX5_playTick RX5 5 none G) : ∀ (n : Nat) (σ : tw_St) (a0 : Nat) (x1 : Int32) (x2 : Int32) (x3 : Int32) (q : tw_St), fX5_playTick_l33 n σ a0 x1 x2 x3 = some q → tw_X p l e rmX5_playTick s m args below meth c 5 G σ 0 0 (tw_Q below args s G 0 0 none q) 33 [(0, .ref a0), (1, .int x1), (2, .int x2), (3, .int x3)] [] := by
  intro n
  induction n with
  | zero => intro _ _ _ _ _ q h; cases (show (none : Option (tw_St)) = some q from h)
  | succ n ih => intro _ _ _ _ _ q h; exact wX5_playTick_h33 hO ih h
set_option maxRecDepth 100000 in
set_option maxHeartbeats 4000000 in
theorem wX5_playTick_b25 (hO : tw_O p s m args meth c cX5_playTick RX5 5 none G) {σ : tw_St} {a0 : Nat} {x1 : Int32} {q : tw_St} (h : fX5_playTick_b25 σ a0 x1 = some q) : tw_X p l e rmX5_playTick s m args below meth c 5 G σ 0 0 (tw_Q below args s G 0 0 none q) 25 [(0, .ref a0), (1, .int x1)] [] := by
  unfold fX5_playTick_b25 at h
  refine tw_aload_n 0 hO dX5_playTick_25 rfl rfl ?_
  refine tw_iload_n 1 hO dX5_playTick_26 rfl rfl ?_
  obtain ⟨v27, e27, h⟩ := tw_bd h
  refine tw_cVi hO (mX5_starterNow l G e27) cfX5_starterNow (t := 5) rfl (kX5_starterNow e27) tw_w361 tw_w363 tw_w8 rfl rfl rfl rfl ⟨(Nat.le_of_ble_eq_true rfl), (Nat.le_of_ble_eq_true rfl)⟩ (Nat.le_of_ble_eq_true rfl) ⟨(Nat.le_of_ble_eq_true rfl), (Nat.le_of_ble_eq_true rfl)⟩ dX5_playTick_27 ?_
  refine tw_istore_n (lv' := [(2, .int v27), (0, .ref a0), (1, .int x1)]) hO dX5_playTick_30 rfl (by decide) rfl ?_
  refine tw_iconst (v := 0) hO dX5_playTick_31 (by decide) ?_
  refine tw_istore_n (lv' := [(3, .int 0), (2, .int v27), (0, .ref a0), (1, .int x1)]) hO dX5_playTick_32 rfl (by decide) rfl ?_
  refine tw_sub [2, 3, 1, 0] rfl ?_
  exact wX5_playTick_l33 hO _ _ _ _ _ _ _ h
set_option maxRecDepth 100000 in
set_option maxHeartbeats 4000000 in
theorem wX5_playTick_h2 (hO : tw_O p s m args meth c cX5_playTick RX5 5 none G) {k2 : (tw_St → Nat → Int32 → Int32 → Option (tw_St))} (hk2 : ∀ (σ : tw_St) (a0 : Nat) (x1 : Int32) (x2 : Int32) (q : tw_St), k2 σ a0 x1 x2 = some q → tw_X p l e rmX5_playTick s m args below meth c 5 G σ 0 0 (tw_Q below args s G 0 0 none q) 2 [(0, .ref a0), (1, .int x1), (2, .int x2)] []) {σ : tw_St} {a0 : Nat} {x1 : Int32} {x2 : Int32} {q : tw_St} (h : fX5_playTick_h2 k2 σ a0 x1 x2 = some q) : tw_X p l e rmX5_playTick s m args below meth c 5 G σ 0 0 (tw_Q below args s G 0 0 none q) 2 [(0, .ref a0), (1, .int x1), (2, .int x2)] [] := by
  unfold fX5_playTick_h2 at h
  refine tw_iload_n 2 hO dX5_playTick_2 rfl rfl ?_
  refine tw_iconst (v := 2) hO dX5_playTick_3 (by decide) ?_
  refine tw_icmp_ge (tgt := 25) hO dX5_playTick_4 (by decide) (fun cc => ?_) (fun cc => ?_)
  · replace h := tw_ifp cc h
    refine tw_sub [0, 1] rfl ?_
    exact wX5_playTick_b25 hO h
  · replace h := tw_ifn cc h
    refine tw_aload_n 0 hO dX5_playTick_7 rfl rfl ?_
    obtain ⟨v8, e8, h⟩ := tw_bd h
    refine tw_getP hO dX5_playTick_8 (t := 5) rfl 7 (by decide) rfl tw_w154 rfl e8 ?_
    refine tw_iload_n 2 hO dX5_playTick_11 rfl rfl ?_
    refine tw_aload_n 0 hO dX5_playTick_12 rfl rfl ?_
    refine tw_iload_n 2 hO dX5_playTick_13 rfl rfl ?_
    refine tw_iload_n 1 hO dX5_playTick_14 rfl rfl ?_
    obtain ⟨v15, e15, h⟩ := tw_bd h
    refine tw_cVi hO (mX5_hindranceOf l G e15) cfX5_hindranceOf (t := 5) rfl (kX5_hindranceOf e15) tw_w347 tw_w349 tw_w6 rfl rfl rfl rfl ⟨(Nat.le_of_ble_eq_true rfl), (Nat.le_of_ble_eq_true rfl)⟩ (Nat.le_of_ble_eq_true rfl) ⟨(Nat.le_of_ble_eq_true rfl), (Nat.le_of_ble_eq_true rfl)⟩ dX5_playTick_15 ?_
    obtain ⟨σ18, e18, h⟩ := tw_bd h
    refine tw_iast hO dX5_playTick_18 e18 ?_
    refine tw_iinc (q := 2) (v := (x2 + 1)) (lv' := [(2, .int (x2 + 1)), (0, .ref a0), (1, .int x1)]) hO dX5_playTick_19 rfl rfl (by decide) rfl ?_
    refine tw_goto (tgt := 2) hO dX5_playTick_22 (by decide) ?_
    refine tw_sub [1, 2, 0] rfl ?_
    exact hk2 _ _ _ _ _ h
set_option maxRecDepth 100000 in
set_option maxHeartbeats 4000000 in
theorem wX5_playTick_l2 (hO : tw_O p s m args meth c cX5_playTick RX5 5 none G) : ∀ (n : Nat) (σ : tw_St) (a0 : Nat) (x1 : Int32) (x2 : Int32) (q : tw_St), fX5_playTick_l2 n σ a0 x1 x2 = some q → tw_X p l e rmX5_playTick s m args below meth c 5 G σ 0 0 (tw_Q below args s G 0 0 none q) 2 [(0, .ref a0), (1, .int x1), (2, .int x2)] [] := by
  intro n
  induction n with
  | zero => intro _ _ _ _ q h; cases (show (none : Option (tw_St)) = some q from h)
  | succ n ih => intro _ _ _ _ q h; exact wX5_playTick_h2 hO ih h
set_option maxRecDepth 100000 in
set_option maxHeartbeats 4000000 in
theorem mX5_playTick (l : Launch) (G : tw_G) {σ : tw_St} {a : Nat} {x1 : Int32} {q : tw_St} (h : fX5_playTick σ a x1 = some q) : tw_M l G yX5_playTick cX5_playTick 5 none rmX5_playTick 0 0 σ [.ref a, .int x1] none q := by
  unfold fX5_playTick at h
  obtain ⟨_, -, h⟩ := tw_bd h
  refine tw_M.of (by decide +kernel) (Nat.le_of_ble_eq_true rfl) (fun p e s m args below meth c hnm hO => ?_)
  have hO : tw_O p s m args meth c cX5_playTick RX5 5 none G := hO
  refine tw_iconst (v := 0) hO dX5_playTick_0 (by decide) ?_
  refine tw_istore_n (lv' := [(2, .int 0), (0, .ref a), (1, .int x1)]) hO dX5_playTick_1 rfl (by decide) rfl ?_
  refine tw_sub [1, 2, 0] rfl ?_
  exact wX5_playTick_l2 hO _ _ _ _ _ _ h
theorem cfX5_schedule : tw_CF yX5_schedule cX5_schedule 3 none 1 := ⟨tw_w334, tw_w51, by decide +kernel, by decide +kernel, by decide +kernel⟩
theorem kX5_schedule {σ : tw_St} {a : Nat} {x1 : Int32} {q : tw_St} (h : fX5_schedule σ a x1 = some q) : tw_is σ 5 a = some () := by
  unfold fX5_schedule at h
  obtain ⟨_, e1, -⟩ := tw_bd h
  exact e1
set_option maxRecDepth 100000 in
set_option maxHeartbeats 4000000 in
theorem wX5_schedule_b34 (hO : tw_O p s m args meth c cX5_schedule RX5 3 none G) {k11 : (tw_St → Nat → Int32 → Option (tw_St))} (hk11 : ∀ (σ : tw_St) (a0 : Nat) (x2 : Int32) (q : tw_St), k11 σ a0 x2 = some q → tw_X p l e rmX5_schedule s m args below meth c 3 G σ 0 0 (tw_Q below args s G 0 0 none q) 11 [(0, .ref a0), (2, .int x2)] []) {σ : tw_St} {a0 : Nat} {x2 : Int32} {q : tw_St} (h : fX5_schedule_b34 k11 σ a0 x2 = some q) : tw_X p l e rmX5_schedule s m args below meth c 3 G σ 0 0 (tw_Q below args s G 0 0 none q) 34 [(0, .ref a0), (2, .int x2)] [] := by
  unfold fX5_schedule_b34 at h
  refine tw_aload_n 0 hO dX5_schedule_34 rfl rfl ?_
  refine tw_iload_n 1 hO dX5_schedule_35 rfl rfl ?_
  obtain ⟨σ36, e36, h⟩ := tw_bd h
  refine tw_cVv hO (mX5_playTick l G e36) cfX5_playTick (t := 5) rfl (kX5_playTick e36) tw_w343 tw_w345 tw_w5 rfl rfl rfl rfl ⟨(Nat.le_of_ble_eq_true rfl), (Nat.le_of_ble_eq_true rfl)⟩ (Nat.le_of_ble_eq_true rfl) ⟨(Nat.le_of_ble_eq_true rfl), (Nat.le_of_ble_eq_true rfl)⟩ dX5_schedule_36 ?_
  refine tw_iinc (q := 1) (v := (x2 + 1)) (lv' := [(2, .int (x2 + 1)), (0, .ref a0)]) hO dX5_schedule_39 rfl rfl (by decide) rfl ?_
  refine tw_goto (tgt := 11) hO dX5_schedule_42 (by decide) ?_
  refine tw_sub [1, 0] rfl ?_
  exact hk11 _ _ _ _ h
set_option maxRecDepth 100000 in
set_option maxHeartbeats 4000000 in
theorem wX5_schedule_h11 (hO : tw_O p s m args meth c cX5_schedule RX5 3 none G) {k11 : (tw_St → Nat → Int32 → Option (tw_St))} (hk11 : ∀ (σ : tw_St) (a0 : Nat) (x2 : Int32) (q : tw_St), k11 σ a0 x2 = some q → tw_X p l e rmX5_schedule s m args below meth c 3 G σ 0 0 (tw_Q below args s G 0 0 none q) 11 [(0, .ref a0), (2, .int x2)] []) {σ : tw_St} {a0 : Nat} {x2 : Int32} {q : tw_St} (h : fX5_schedule_h11 k11 σ a0 x2 = some q) : tw_X p l e rmX5_schedule s m args below meth c 3 G σ 0 0 (tw_Q below args s G 0 0 none q) 11 [(0, .ref a0), (2, .int x2)] [] := by
  unfold fX5_schedule_h11 at h
  refine tw_iload_n 1 hO dX5_schedule_11 rfl rfl ?_
  refine tw_sipush (v := 4096) hO dX5_schedule_12 (by decide) ?_
  refine tw_icmp_ge (tgt := 45) hO dX5_schedule_15 (by decide) (fun cc => ?_) (fun cc => ?_)
  · replace h := tw_ifp cc h
    exact tw_vret hO dX5_schedule_45 h
  · replace h := tw_ifn cc h
    refine tw_aload_n 0 hO dX5_schedule_18 rfl rfl ?_
    refine tw_iconst (v := 0) hO dX5_schedule_19 (by decide) ?_
    obtain ⟨v20, e20, h⟩ := tw_bd h
    refine tw_cVi hO (mX5_hasStep l G e20) cfX5_hasStep (t := 5) rfl (kX5_hasStep e20) tw_w339 tw_w341 tw_w4 rfl rfl rfl rfl ⟨(Nat.le_of_ble_eq_true rfl), (Nat.le_of_ble_eq_true rfl)⟩ (Nat.le_of_ble_eq_true rfl) ⟨(Nat.le_of_ble_eq_true rfl), (Nat.le_of_ble_eq_true rfl)⟩ dX5_schedule_20 ?_
    refine tw_if_ne (tgt := 34) hO dX5_schedule_23 (by decide) (fun cc => ?_) (fun cc => ?_)
    · replace h := tw_ifn cc h
      exact wX5_schedule_b34 hO hk11 h
    · replace h := tw_ifp cc h
      refine tw_aload_n 0 hO dX5_schedule_26 rfl rfl ?_
      refine tw_iconst (v := 1) hO dX5_schedule_27 (by decide) ?_
      obtain ⟨v28, e28, h⟩ := tw_bd h
      refine tw_cVi hO (mX5_hasStep l G e28) cfX5_hasStep (t := 5) rfl (kX5_hasStep e28) tw_w339 tw_w341 tw_w4 rfl rfl rfl rfl ⟨(Nat.le_of_ble_eq_true rfl), (Nat.le_of_ble_eq_true rfl)⟩ (Nat.le_of_ble_eq_true rfl) ⟨(Nat.le_of_ble_eq_true rfl), (Nat.le_of_ble_eq_true rfl)⟩ dX5_schedule_28 ?_
      refine tw_if_eq (tgt := 45) hO dX5_schedule_31 (by decide) (fun cc => ?_) (fun cc => ?_)
      · replace h := tw_ifp cc h
        exact tw_vret hO dX5_schedule_45 h
      · replace h := tw_ifn cc h
        exact wX5_schedule_b34 hO hk11 h
set_option maxRecDepth 100000 in
set_option maxHeartbeats 4000000 in
theorem wX5_schedule_l11 (hO : tw_O p s m args meth c cX5_schedule RX5 3 none G) : ∀ (n : Nat) (σ : tw_St) (a0 : Nat) (x2 : Int32) (q : tw_St), fX5_schedule_l11 n σ a0 x2 = some q → tw_X p l e rmX5_schedule s m args below meth c 3 G σ 0 0 (tw_Q below args s G 0 0 none q) 11 [(0, .ref a0), (2, .int x2)] [] := by
  intro n
  induction n with
  | zero => intro _ _ _ q h; cases (show (none : Option (tw_St)) = some q from h)
  | succ n ih => intro _ _ _ q h; exact wX5_schedule_h11 hO ih h
set_option maxRecDepth 100000 in
set_option maxHeartbeats 4000000 in
theorem mX5_schedule (l : Launch) (G : tw_G) {σ : tw_St} {a : Nat} {x1 : Int32} {q : tw_St} (h : fX5_schedule σ a x1 = some q) : tw_M l G yX5_schedule cX5_schedule 3 none rmX5_schedule 0 0 σ [.ref a, .int x1] none q := by
  unfold fX5_schedule at h
  obtain ⟨_, -, h⟩ := tw_bd h
  refine tw_M.of (by decide +kernel) (Nat.le_of_ble_eq_true rfl) (fun p e s m args below meth c hnm hO => ?_)
  have hO : tw_O p s m args meth c cX5_schedule RX5 3 none G := hO
  refine tw_aload_n 0 hO dX5_schedule_0 rfl rfl ?_
  refine tw_iload_n 1 hO dX5_schedule_1 rfl rfl ?_
  obtain ⟨σ2, e2, h⟩ := tw_bd h
  refine tw_putI hO dX5_schedule_2 (t := 5) rfl 11 (by decide) rfl tw_w158 rfl rfl ⟨rfl, rfl⟩ e2 ?_
  refine tw_aload_n 0 hO dX5_schedule_5 rfl rfl ?_
  obtain ⟨σ6, e6, h⟩ := tw_bd h
  refine tw_cVv hO (mX5_clear l G e6) cfX5_clear (t := 5) rfl (kX5_clear e6) tw_w335 tw_w337 tw_w3 rfl rfl rfl rfl ⟨(Nat.le_of_ble_eq_true rfl), (Nat.le_of_ble_eq_true rfl)⟩ (Nat.le_of_ble_eq_true rfl) ⟨(Nat.le_of_ble_eq_true rfl), (Nat.le_of_ble_eq_true rfl)⟩ dX5_schedule_6 ?_
  refine tw_iconst (v := 0) hO dX5_schedule_9 (by decide) ?_
  refine tw_istore_n (lv' := [(2, .int 0), (0, .ref a), (1, .int x1)]) hO dX5_schedule_10 rfl (by decide) rfl ?_
  refine tw_sub [1, 0] rfl ?_
  exact wX5_schedule_l11 hO _ _ _ _ _ h
theorem cfX5_play : tw_CF yX5_play cX5_play 2 none 1 := ⟨tw_w299, tw_w51, by decide +kernel, by decide +kernel, by decide +kernel⟩
theorem kX5_play {σ : tw_St} {a : Nat} {x1 : Int32} {q : tw_St} (h : fX5_play σ a x1 = some q) : tw_is σ 5 a = some () := by
  unfold fX5_play at h
  obtain ⟨_, e1, -⟩ := tw_bd h
  exact e1
set_option maxRecDepth 100000 in
set_option maxHeartbeats 4000000 in
theorem mX5_play (l : Launch) (G : tw_G) {σ : tw_St} {a : Nat} {x1 : Int32} {q : tw_St} (h : fX5_play σ a x1 = some q) : tw_M l G yX5_play cX5_play 2 none rmX5_play 0 0 σ [.ref a, .int x1] none q := by
  unfold fX5_play at h
  obtain ⟨_, -, h⟩ := tw_bd h
  refine tw_M.of (by decide +kernel) (Nat.le_of_ble_eq_true rfl) (fun p e s m args below meth c hnm hO => ?_)
  have hO : tw_O p s m args meth c cX5_play RX5 2 none G := hO
  refine tw_aload_n 0 hO dX5_play_0 rfl rfl ?_
  obtain ⟨σ1, e1, h⟩ := tw_bd h
  refine tw_cVv hO (mX5_follow l G e1) cfX5_follow (t := 5) rfl (kX5_follow e1) tw_w300 tw_w301 tw_w302 rfl rfl rfl rfl ⟨(Nat.le_of_ble_eq_true rfl), (Nat.le_of_ble_eq_true rfl)⟩ (Nat.le_of_ble_eq_true rfl) ⟨(Nat.le_of_ble_eq_true rfl), (Nat.le_of_ble_eq_true rfl)⟩ dX5_play_1 ?_
  refine tw_aload_n 0 hO dX5_play_4 rfl rfl ?_
  refine tw_iload_n 1 hO dX5_play_5 rfl rfl ?_
  obtain ⟨σ6, e6, h⟩ := tw_bd h
  refine tw_cVv hO (mX5_schedule l G e6) cfX5_schedule (t := 5) rfl (kX5_schedule e6) tw_w331 tw_w332 tw_w333 rfl rfl rfl rfl ⟨(Nat.le_of_ble_eq_true rfl), (Nat.le_of_ble_eq_true rfl)⟩ (Nat.le_of_ble_eq_true rfl) ⟨(Nat.le_of_ble_eq_true rfl), (Nat.le_of_ble_eq_true rfl)⟩ dX5_play_6 ?_
  exact tw_vret hO dX5_play_9 h
theorem cfX5_length : tw_CF yX5_length cX5_length 1 (some .int) 0 := ⟨tw_w482, tw_w51, by decide +kernel, by decide +kernel, by decide +kernel⟩
theorem kX5_length {σ : tw_St} {a : Nat} {q : Int32} (h : fX5_length σ a = some q) : tw_is σ 5 a = some () := by
  unfold fX5_length at h
  obtain ⟨_, e1, -⟩ := tw_bd h
  exact e1
set_option maxRecDepth 100000 in
set_option maxHeartbeats 4000000 in
theorem mX5_length (l : Launch) (G : tw_G) {σ : tw_St} {a : Nat} {q : Int32} (h : fX5_length σ a = some q) : tw_M l G yX5_length cX5_length 1 (some .int) rmX5_length 0 0 σ [.ref a] (some (.int q)) σ := by
  unfold fX5_length at h
  obtain ⟨_, -, h⟩ := tw_bd h
  refine tw_M.of (by decide +kernel) (Nat.le_of_ble_eq_true rfl) (fun p e s m args below meth c hnm hO => ?_)
  have hO : tw_O p s m args meth c cX5_length RX5 1 (some .int) G := hO
  refine tw_aload_n 0 hO dX5_length_0 rfl rfl ?_
  obtain ⟨v1, e1, h⟩ := tw_bd h
  refine tw_getP hO dX5_length_1 (t := 5) rfl 2 (by decide) rfl tw_w145 rfl e1 ?_
  refine tw_iconst (v := 0) hO dX5_length_4 (by decide) ?_
  obtain ⟨v5, e5, h⟩ := tw_bd h
  refine tw_iald hO dX5_length_5 e5 ?_
  refine tw_aload_n 0 hO dX5_length_6 rfl rfl ?_
  obtain ⟨v7, e7, h⟩ := tw_bd h
  refine tw_getP hO dX5_length_7 (t := 5) rfl 2 (by decide) rfl tw_w145 rfl e7 ?_
  refine tw_iconst (v := 1) hO dX5_length_10 (by decide) ?_
  obtain ⟨v11, e11, h⟩ := tw_bd h
  refine tw_iald hO dX5_length_11 e11 ?_
  obtain ⟨v12, e12, h⟩ := tw_bd h
  refine tw_cSi hO (mJ9_max l G e12) cfJ9_max tw_w378 tw_w379 rfl rfl rfl rfl ⟨(Nat.le_of_ble_eq_true rfl), (Nat.le_of_ble_eq_true rfl)⟩ (Nat.le_of_ble_eq_true rfl) ⟨(Nat.le_of_ble_eq_true rfl), (Nat.le_of_ble_eq_true rfl)⟩ dX5_length_12 ?_
  exact tw_iretR hO dX5_length_15 h
theorem cfX5_stepsIn : tw_CF yX5_stepsIn cX5_stepsIn 5 (some .int) 2 := ⟨tw_w496, tw_w51, by decide +kernel, by decide +kernel, by decide +kernel⟩
theorem kX5_stepsIn {σ : tw_St} {a : Nat} {x1 : Int32} {x2 : Int32} {q : Int32} (h : fX5_stepsIn σ a x1 x2 = some q) : tw_is σ 5 a = some () := by
  unfold fX5_stepsIn at h
  obtain ⟨_, e1, -⟩ := tw_bd h
  exact e1
set_option maxRecDepth 100000 in
set_option maxHeartbeats 4000000 in
theorem wX5_stepsIn_b47 (hO : tw_O p s m args meth c cX5_stepsIn RX5 5 (some .int) G) {k5 : (tw_St → Nat → Int32 → Int32 → Int32 → Int32 → Option (Int32))} (hk5 : ∀ (σ : tw_St) (a0 : Nat) (x1 : Int32) (x2 : Int32) (x3 : Int32) (x4 : Int32) (q : Int32), k5 σ a0 x1 x2 x3 x4 = some q → tw_X p l e rmX5_stepsIn s m args below meth c 5 G σ 0 0 (tw_Q below args s G 0 0 (some (.int q)) σ) 5 [(0, .ref a0), (1, .int x1), (2, .int x2), (3, .int x3), (4, .int x4)] []) {σ : tw_St} {a0 : Nat} {x1 : Int32} {x2 : Int32} {x3 : Int32} {x4 : Int32} {q : Int32} (h : fX5_stepsIn_b47 k5 σ a0 x1 x2 x3 x4 = some q) : tw_X p l e rmX5_stepsIn s m args below meth c 5 G σ 0 0 (tw_Q below args s G 0 0 (some (.int q)) σ) 47 [(0, .ref a0), (1, .int x1), (2, .int x2), (3, .int x3), (4, .int x4)] [] := by
  unfold fX5_stepsIn_b47 at h
  refine tw_iinc (q := 4) (v := (x4 + 1)) (lv' := [(4, .int (x4 + 1)), (0, .ref a0), (1, .int x1), (2, .int x2), (3, .int x3)]) hO dX5_stepsIn_47 rfl rfl (by decide) rfl ?_
  refine tw_goto (tgt := 5) hO dX5_stepsIn_50 (by decide) ?_
  refine tw_sub [1, 2, 3, 4, 0] rfl ?_
  exact hk5 _ _ _ _ _ _ _ h
set_option maxRecDepth 100000 in
set_option maxHeartbeats 4000000 in
theorem wX5_stepsIn_h5 (hO : tw_O p s m args meth c cX5_stepsIn RX5 5 (some .int) G) {k5 : (tw_St → Nat → Int32 → Int32 → Int32 → Int32 → Option (Int32))} (hk5 : ∀ (σ : tw_St) (a0 : Nat) (x1 : Int32) (x2 : Int32) (x3 : Int32) (x4 : Int32) (q : Int32), k5 σ a0 x1 x2 x3 x4 = some q → tw_X p l e rmX5_stepsIn s m args below meth c 5 G σ 0 0 (tw_Q below args s G 0 0 (some (.int q)) σ) 5 [(0, .ref a0), (1, .int x1), (2, .int x2), (3, .int x3), (4, .int x4)] []) {σ : tw_St} {a0 : Nat} {x1 : Int32} {x2 : Int32} {x3 : Int32} {x4 : Int32} {q : Int32} (h : fX5_stepsIn_h5 k5 σ a0 x1 x2 x3 x4 = some q) : tw_X p l e rmX5_stepsIn s m args below meth c 5 G σ 0 0 (tw_Q below args s G 0 0 (some (.int q)) σ) 5 [(0, .ref a0), (1, .int x1), (2, .int x2), (3, .int x3), (4, .int x4)] [] := by
  unfold fX5_stepsIn_h5 at h
  refine tw_iload 4 hO dX5_stepsIn_5 rfl ?_
  refine tw_aload_n 0 hO dX5_stepsIn_7 rfl rfl ?_
  obtain ⟨v8, e8, h⟩ := tw_bd h
  refine tw_getP hO dX5_stepsIn_8 (t := 5) rfl 1 (by decide) rfl tw_w143 rfl e8 ?_
  refine tw_iload_n 1 hO dX5_stepsIn_11 rfl rfl ?_
  obtain ⟨v12, e12, h⟩ := tw_bd h
  refine tw_iald hO dX5_stepsIn_12 e12 ?_
  refine tw_icmp_ge (tgt := 53) hO dX5_stepsIn_13 (by decide) (fun cc => ?_) (fun cc => ?_)
  · replace h := tw_ifp cc h
    refine tw_iload_n 3 hO dX5_stepsIn_53 rfl rfl ?_
    exact tw_iretR hO dX5_stepsIn_54 h
  · replace h := tw_ifn cc h
    refine tw_aload_n 0 hO dX5_stepsIn_16 rfl rfl ?_
    obtain ⟨v17, e17, h⟩ := tw_bd h
    refine tw_getP hO dX5_stepsIn_17 (t := 5) rfl 6 (by decide) rfl tw_w153 rfl e17 ?_
    obtain ⟨v20, e20, h⟩ := tw_bd h
    refine tw_getP hO dX5_stepsIn_20 (t := 6) rfl 1 (by decide) rfl tw_w97 rfl e20 ?_
    refine tw_iload_n 1 hO dX5_stepsIn_23 rfl rfl ?_
    obtain ⟨v24, e24, h⟩ := tw_bd h
    refine tw_aald hO dX5_stepsIn_24 (by decide) (by decide) e24 ?_
    refine tw_aload_n 0 hO dX5_stepsIn_25 rfl rfl ?_
    obtain ⟨v26, e26, h⟩ := tw_bd h
    refine tw_getP hO dX5_stepsIn_26 (t := 5) rfl 0 (by decide) rfl tw_w141 rfl e26 ?_
    refine tw_iload_n 1 hO dX5_stepsIn_29 rfl rfl ?_
    obtain ⟨v30, e30, h⟩ := tw_bd h
    refine tw_aald hO dX5_stepsIn_30 (by decide) (by decide) e30 ?_
    obtain ⟨v31, e31, h⟩ := tw_bd h
    refine tw_getP hO dX5_stepsIn_31 (t := 2) rfl 2 (by decide) rfl tw_w127 rfl e31 ?_
    refine tw_iload 4 hO dX5_stepsIn_34 rfl ?_
    obtain ⟨v36, e36, h⟩ := tw_bd h
    refine tw_iald hO dX5_stepsIn_36 e36 ?_
    obtain ⟨v37, e37, h⟩ := tw_bd h
    refine tw_cVi hO (mX3_roomOf l G e37) cfX3_roomOf (t := 3) rfl (kX3_roomOf e37) tw_w356 tw_w357 tw_w358 rfl rfl rfl rfl ⟨(Nat.le_of_ble_eq_true rfl), (Nat.le_of_ble_eq_true rfl)⟩ (Nat.le_of_ble_eq_true rfl) ⟨(Nat.le_of_ble_eq_true rfl), (Nat.le_of_ble_eq_true rfl)⟩ dX5_stepsIn_37 ?_
    refine tw_iload_n 2 hO dX5_stepsIn_40 rfl rfl ?_
    refine tw_icmp_ne (tgt := 47) hO dX5_stepsIn_41 (by decide) (fun cc => ?_) (fun cc => ?_)
    · replace h := tw_ifn cc h
      exact wX5_stepsIn_b47 hO hk5 h
    · replace h := tw_ifp cc h
      refine tw_iinc (q := 3) (v := (x3 + 1)) (lv' := [(3, .int (x3 + 1)), (0, .ref a0), (1, .int x1), (2, .int x2), (4, .int x4)]) hO dX5_stepsIn_44 rfl rfl (by decide) rfl ?_
      refine tw_sub [1, 2, 3, 0, 4] rfl ?_
      exact wX5_stepsIn_b47 hO hk5 h
set_option maxRecDepth 100000 in
set_option maxHeartbeats 4000000 in
theorem wX5_stepsIn_l5 (hO : tw_O p s m args meth c cX5_stepsIn RX5 5 (some .int) G) : ∀ (n : Nat) (σ : tw_St) (a0 : Nat) (x1 : Int32) (x2 : Int32) (x3 : Int32) (x4 : Int32) (q : Int32), fX5_stepsIn_l5 n σ a0 x1 x2 x3 x4 = some q → tw_X p l e rmX5_stepsIn s m args below meth c 5 G σ 0 0 (tw_Q below args s G 0 0 (some (.int q)) σ) 5 [(0, .ref a0), (1, .int x1), (2, .int x2), (3, .int x3), (4, .int x4)] [] := by
  intro n
  induction n with
  | zero => intro _ _ _ _ _ _ q h; cases (show (none : Option (Int32)) = some q from h)
  | succ n ih => intro _ _ _ _ _ _ q h; exact wX5_stepsIn_h5 hO ih h
set_option maxRecDepth 100000 in
set_option maxHeartbeats 4000000 in
theorem mX5_stepsIn (l : Launch) (G : tw_G) {σ : tw_St} {a : Nat} {x1 : Int32} {x2 : Int32} {q : Int32} (h : fX5_stepsIn σ a x1 x2 = some q) : tw_M l G yX5_stepsIn cX5_stepsIn 5 (some .int) rmX5_stepsIn 0 0 σ [.ref a, .int x1, .int x2] (some (.int q)) σ := by
  unfold fX5_stepsIn at h
  obtain ⟨_, -, h⟩ := tw_bd h
  refine tw_M.of (by decide +kernel) (Nat.le_of_ble_eq_true rfl) (fun p e s m args below meth c hnm hO => ?_)
  have hO : tw_O p s m args meth c cX5_stepsIn RX5 5 (some .int) G := hO
  refine tw_iconst (v := 0) hO dX5_stepsIn_0 (by decide) ?_
  refine tw_istore_n (lv' := [(3, .int 0), (0, .ref a), (1, .int x1), (2, .int x2)]) hO dX5_stepsIn_1 rfl (by decide) rfl ?_
  refine tw_iconst (v := 0) hO dX5_stepsIn_2 (by decide) ?_
  refine tw_istore (lv' := [(4, .int 0), (3, .int 0), (0, .ref a), (1, .int x1), (2, .int x2)]) hO dX5_stepsIn_3 (by decide) rfl ?_
  refine tw_sub [2, 3, 4, 1, 0] rfl ?_
  exact wX5_stepsIn_l5 hO _ _ _ _ _ _ _ _ h
theorem cfX5_waitAhead : tw_CF yX5_waitAhead cX5_waitAhead 4 (some .int) 2 := ⟨tw_w508, tw_w51, by decide +kernel, by decide +kernel, by decide +kernel⟩
theorem kX5_waitAhead {σ : tw_St} {a : Nat} {x1 : Int32} {x2 : Int32} {q : Int32} (h : fX5_waitAhead σ a x1 x2 = some q) : tw_is σ 5 a = some () := by
  unfold fX5_waitAhead at h
  obtain ⟨_, e1, -⟩ := tw_bd h
  exact e1
set_option maxRecDepth 100000 in
set_option maxHeartbeats 4000000 in
theorem wX5_waitAhead_b20 (hO : tw_O p s m args meth c cX5_waitAhead RX5 4 (some .int) G) {σ : tw_St} {a0 : Nat} {x1 : Int32} {x2 : Int32} {z0 : Int32} {q : Int32} (h : fX5_waitAhead_b20 σ a0 x1 x2 z0 = some q) : tw_X p l e rmX5_waitAhead s m args below meth c 4 G σ 0 0 (tw_Q below args s G 0 0 (some (.int q)) σ) 20 [(0, .ref a0), (1, .int x1), (2, .int x2)] [.int z0] := by
  unfold fX5_waitAhead_b20 at h
  refine tw_istore_n (lv' := [(3, .int z0), (0, .ref a0), (1, .int x1), (2, .int x2)]) hO dX5_waitAhead_20 rfl (by decide) rfl ?_
  refine tw_aload_n 1 hO dX5_waitAhead_21 rfl rfl ?_
  obtain ⟨v22, e22, h⟩ := tw_bd h
  refine tw_getP hO dX5_waitAhead_22 (t := 5) rfl 3 (by decide) rfl tw_w147 rfl e22 ?_
  refine tw_iload_n 2 hO dX5_waitAhead_25 rfl rfl ?_
  obtain ⟨v26, e26, h⟩ := tw_bd h
  refine tw_aald hO dX5_waitAhead_26 (by decide) (by decide) e26 ?_
  refine tw_iload_n 3 hO dX5_waitAhead_27 rfl rfl ?_
  obtain ⟨v28, e28, h⟩ := tw_bd h
  refine tw_iald hO dX5_waitAhead_28 e28 ?_
  refine tw_iload_n 0 hO dX5_waitAhead_29 rfl rfl ?_
  refine tw_isub hO dX5_waitAhead_30 ?_
  exact tw_iretR hO dX5_waitAhead_31 h
set_option maxRecDepth 100000 in
set_option maxHeartbeats 4000000 in
theorem mX5_waitAhead (l : Launch) (G : tw_G) {σ : tw_St} {a : Nat} {x1 : Int32} {x2 : Int32} {q : Int32} (h : fX5_waitAhead σ a x1 x2 = some q) : tw_M l G yX5_waitAhead cX5_waitAhead 4 (some .int) rmX5_waitAhead 0 0 σ [.ref a, .int x1, .int x2] (some (.int q)) σ := by
  unfold fX5_waitAhead at h
  obtain ⟨_, -, h⟩ := tw_bd h
  refine tw_M.of (by decide +kernel) (Nat.le_of_ble_eq_true rfl) (fun p e s m args below meth c hnm hO => ?_)
  have hO : tw_O p s m args meth c cX5_waitAhead RX5 4 (some .int) G := hO
  refine tw_iload_n 2 hO dX5_waitAhead_0 rfl rfl ?_
  refine tw_if_le (tgt := 19) hO dX5_waitAhead_1 (by decide) (fun cc => ?_) (fun cc => ?_)
  · replace h := tw_ifp cc h
    refine tw_iconst (v := 0) hO dX5_waitAhead_19 (by decide) ?_
    exact wX5_waitAhead_b20 hO h
  · replace h := tw_ifn cc h
    refine tw_aload_n 0 hO dX5_waitAhead_4 rfl rfl ?_
    obtain ⟨v5, e5, h⟩ := tw_bd h
    refine tw_getP hO dX5_waitAhead_5 (t := 5) rfl 3 (by decide) rfl tw_w147 rfl e5 ?_
    refine tw_iload_n 1 hO dX5_waitAhead_8 rfl rfl ?_
    obtain ⟨v9, e9, h⟩ := tw_bd h
    refine tw_aald hO dX5_waitAhead_9 (by decide) (by decide) e9 ?_
    refine tw_iload_n 2 hO dX5_waitAhead_10 rfl rfl ?_
    refine tw_iconst (v := 1) hO dX5_waitAhead_11 (by decide) ?_
    refine tw_isub hO dX5_waitAhead_12 ?_
    obtain ⟨v13, e13, h⟩ := tw_bd h
    refine tw_iald hO dX5_waitAhead_13 e13 ?_
    refine tw_iconst (v := 1) hO dX5_waitAhead_14 (by decide) ?_
    refine tw_iadd hO dX5_waitAhead_15 ?_
    refine tw_goto (tgt := 20) hO dX5_waitAhead_16 (by decide) ?_
    exact wX5_waitAhead_b20 hO h
theorem cfX5_starterIn : tw_CF yX5_starterIn cX5_starterIn 4 (some .int) 1 := ⟨tw_w516, tw_w51, by decide +kernel, by decide +kernel, by decide +kernel⟩
theorem kX5_starterIn {σ : tw_St} {a : Nat} {x1 : Int32} {q : Int32} (h : fX5_starterIn σ a x1 = some q) : tw_is σ 5 a = some () := by
  unfold fX5_starterIn at h
  obtain ⟨_, e1, -⟩ := tw_bd h
  exact e1
set_option maxRecDepth 100000 in
set_option maxHeartbeats 4000000 in
theorem wX5_starterIn_b39 (hO : tw_O p s m args meth c cX5_starterIn RX5 4 (some .int) G) {k2 : (tw_St → Nat → Int32 → Int32 → Option (Int32))} (hk2 : ∀ (σ : tw_St) (a0 : Nat) (x1 : Int32) (x2 : Int32) (q : Int32), k2 σ a0 x1 x2 = some q → tw_X p l e rmX5_starterIn s m args below meth c 4 G σ 0 0 (tw_Q below args s G 0 0 (some (.int q)) σ) 2 [(0, .ref a0), (1, .int x1), (2, .int x2)] []) {σ : tw_St} {a0 : Nat} {x1 : Int32} {x2 : Int32} {q : Int32} (h : fX5_starterIn_b39 k2 σ a0 x1 x2 = some q) : tw_X p l e rmX5_starterIn s m args below meth c 4 G σ 0 0 (tw_Q below args s G 0 0 (some (.int q)) σ) 39 [(0, .ref a0), (1, .int x1), (2, .int x2)] [] := by
  unfold fX5_starterIn_b39 at h
  refine tw_iinc (q := 2) (v := (x2 + 1)) (lv' := [(2, .int (x2 + 1)), (0, .ref a0), (1, .int x1)]) hO dX5_starterIn_39 rfl rfl (by decide) rfl ?_
  refine tw_goto (tgt := 2) hO dX5_starterIn_42 (by decide) ?_
  refine tw_sub [1, 2, 0] rfl ?_
  exact hk2 _ _ _ _ _ h
set_option maxRecDepth 100000 in
set_option maxHeartbeats 4000000 in
theorem wX5_starterIn_h9 (hO : tw_O p s m args meth c cX5_starterIn RX5 4 (some .int) G) {k2 : (tw_St → Nat → Int32 → Int32 → Option (Int32))} {k9 : (tw_St → Nat → Int32 → Int32 → Int32 → Option (Int32))} (hk2 : ∀ (σ : tw_St) (a0 : Nat) (x1 : Int32) (x2 : Int32) (q : Int32), k2 σ a0 x1 x2 = some q → tw_X p l e rmX5_starterIn s m args below meth c 4 G σ 0 0 (tw_Q below args s G 0 0 (some (.int q)) σ) 2 [(0, .ref a0), (1, .int x1), (2, .int x2)] []) (hk9 : ∀ (σ : tw_St) (a0 : Nat) (x1 : Int32) (x2 : Int32) (x3 : Int32) (q : Int32), k9 σ a0 x1 x2 x3 = some q → tw_X p l e rmX5_starterIn s m args below meth c 4 G σ 0 0 (tw_Q below args s G 0 0 (some (.int q)) σ) 9 [(0, .ref a0), (1, .int x1), (2, .int x2), (3, .int x3)] []) {σ : tw_St} {a0 : Nat} {x1 : Int32} {x2 : Int32} {x3 : Int32} {q : Int32} (h : fX5_starterIn_h9 k2 k9 σ a0 x1 x2 x3 = some q) : tw_X p l e rmX5_starterIn s m args below meth c 4 G σ 0 0 (tw_Q below args s G 0 0 (some (.int q)) σ) 9 [(0, .ref a0), (1, .int x1), (2, .int x2), (3, .int x3)] [] := by
  unfold fX5_starterIn_h9 at h
  refine tw_iload_n 3 hO dX5_starterIn_9 rfl rfl ?_
  refine tw_aload_n 0 hO dX5_starterIn_10 rfl rfl ?_
  obtain ⟨v11, e11, h⟩ := tw_bd h
  refine tw_getP hO dX5_starterIn_11 (t := 5) rfl 1 (by decide) rfl tw_w143 rfl e11 ?_
  refine tw_iload_n 2 hO dX5_starterIn_14 rfl rfl ?_
  obtain ⟨v15, e15, h⟩ := tw_bd h
  refine tw_iald hO dX5_starterIn_15 e15 ?_
  refine tw_icmp_ge (tgt := 39) hO dX5_starterIn_16 (by decide) (fun cc => ?_) (fun cc => ?_)
  · replace h := tw_ifp cc h
    refine tw_sub [0, 1, 2] rfl ?_
    exact wX5_starterIn_b39 hO hk2 h
  · replace h := tw_ifn cc h
    refine tw_aload_n 0 hO dX5_starterIn_19 rfl rfl ?_
    obtain ⟨v20, e20, h⟩ := tw_bd h
    refine tw_getP hO dX5_starterIn_20 (t := 5) rfl 3 (by decide) rfl tw_w147 rfl e20 ?_
    refine tw_iload_n 2 hO dX5_starterIn_23 rfl rfl ?_
    obtain ⟨v24, e24, h⟩ := tw_bd h
    refine tw_aald hO dX5_starterIn_24 (by decide) (by decide) e24 ?_
    refine tw_iload_n 3 hO dX5_starterIn_25 rfl rfl ?_
    obtain ⟨v26, e26, h⟩ := tw_bd h
    refine tw_iald hO dX5_starterIn_26 e26 ?_
    refine tw_iload_n 1 hO dX5_starterIn_27 rfl rfl ?_
    refine tw_icmp_ne (tgt := 33) hO dX5_starterIn_28 (by decide) (fun cc => ?_) (fun cc => ?_)
    · replace h := tw_ifn cc h
      refine tw_iinc (q := 3) (v := (x3 + 1)) (lv' := [(3, .int (x3 + 1)), (0, .ref a0), (1, .int x1), (2, .int x2)]) hO dX5_starterIn_33 rfl rfl (by decide) rfl ?_
      refine tw_goto (tgt := 9) hO dX5_starterIn_36 (by decide) ?_
      refine tw_sub [1, 2, 3, 0] rfl ?_
      exact hk9 _ _ _ _ _ _ h
    · replace h := tw_ifp cc h
      refine tw_iload_n 2 hO dX5_starterIn_31 rfl rfl ?_
      exact tw_iretR hO dX5_starterIn_32 h
set_option maxRecDepth 100000 in
set_option maxHeartbeats 4000000 in
theorem wX5_starterIn_l9 (hO : tw_O p s m args meth c cX5_starterIn RX5 4 (some .int) G) {k2 : (tw_St → Nat → Int32 → Int32 → Option (Int32))} (hk2 : ∀ (σ : tw_St) (a0 : Nat) (x1 : Int32) (x2 : Int32) (q : Int32), k2 σ a0 x1 x2 = some q → tw_X p l e rmX5_starterIn s m args below meth c 4 G σ 0 0 (tw_Q below args s G 0 0 (some (.int q)) σ) 2 [(0, .ref a0), (1, .int x1), (2, .int x2)] []) : ∀ (n : Nat) (σ : tw_St) (a0 : Nat) (x1 : Int32) (x2 : Int32) (x3 : Int32) (q : Int32), fX5_starterIn_l9 k2 n σ a0 x1 x2 x3 = some q → tw_X p l e rmX5_starterIn s m args below meth c 4 G σ 0 0 (tw_Q below args s G 0 0 (some (.int q)) σ) 9 [(0, .ref a0), (1, .int x1), (2, .int x2), (3, .int x3)] [] := by
  intro n
  induction n with
  | zero => intro _ _ _ _ _ q h; cases (show (none : Option (Int32)) = some q from h)
  | succ n ih => intro _ _ _ _ _ q h; exact wX5_starterIn_h9 hO hk2 ih h
set_option maxRecDepth 100000 in
set_option maxHeartbeats 4000000 in
theorem wX5_starterIn_h2 (hO : tw_O p s m args meth c cX5_starterIn RX5 4 (some .int) G) {k2 : (tw_St → Nat → Int32 → Int32 → Option (Int32))} (hk2 : ∀ (σ : tw_St) (a0 : Nat) (x1 : Int32) (x2 : Int32) (q : Int32), k2 σ a0 x1 x2 = some q → tw_X p l e rmX5_starterIn s m args below meth c 4 G σ 0 0 (tw_Q below args s G 0 0 (some (.int q)) σ) 2 [(0, .ref a0), (1, .int x1), (2, .int x2)] []) {σ : tw_St} {a0 : Nat} {x1 : Int32} {x2 : Int32} {q : Int32} (h : fX5_starterIn_h2 k2 σ a0 x1 x2 = some q) : tw_X p l e rmX5_starterIn s m args below meth c 4 G σ 0 0 (tw_Q below args s G 0 0 (some (.int q)) σ) 2 [(0, .ref a0), (1, .int x1), (2, .int x2)] [] := by
  unfold fX5_starterIn_h2 at h
  refine tw_iload_n 2 hO dX5_starterIn_2 rfl rfl ?_
  refine tw_iconst (v := 2) hO dX5_starterIn_3 (by decide) ?_
  refine tw_icmp_ge (tgt := 45) hO dX5_starterIn_4 (by decide) (fun cc => ?_) (fun cc => ?_)
  · replace h := tw_ifp cc h
    refine tw_bipush (v := (-6)) hO dX5_starterIn_45 (by decide) ?_
    exact tw_iretR hO dX5_starterIn_47 h
  · replace h := tw_ifn cc h
    refine tw_iconst (v := 0) hO dX5_starterIn_7 (by decide) ?_
    refine tw_istore_n (lv' := [(3, .int 0), (0, .ref a0), (1, .int x1), (2, .int x2)]) hO dX5_starterIn_8 rfl (by decide) rfl ?_
    refine tw_sub [1, 2, 3, 0] rfl ?_
    exact wX5_starterIn_l9 hO hk2 _ _ _ _ _ _ _ h
set_option maxRecDepth 100000 in
set_option maxHeartbeats 4000000 in
theorem wX5_starterIn_l2 (hO : tw_O p s m args meth c cX5_starterIn RX5 4 (some .int) G) : ∀ (n : Nat) (σ : tw_St) (a0 : Nat) (x1 : Int32) (x2 : Int32) (q : Int32), fX5_starterIn_l2 n σ a0 x1 x2 = some q → tw_X p l e rmX5_starterIn s m args below meth c 4 G σ 0 0 (tw_Q below args s G 0 0 (some (.int q)) σ) 2 [(0, .ref a0), (1, .int x1), (2, .int x2)] [] := by
  intro n
  induction n with
  | zero => intro _ _ _ _ q h; cases (show (none : Option (Int32)) = some q from h)
  | succ n ih => intro _ _ _ _ q h; exact wX5_starterIn_h2 hO ih h
set_option maxRecDepth 100000 in
set_option maxHeartbeats 4000000 in
theorem mX5_starterIn (l : Launch) (G : tw_G) {σ : tw_St} {a : Nat} {x1 : Int32} {q : Int32} (h : fX5_starterIn σ a x1 = some q) : tw_M l G yX5_starterIn cX5_starterIn 4 (some .int) rmX5_starterIn 0 0 σ [.ref a, .int x1] (some (.int q)) σ := by
  unfold fX5_starterIn at h
  obtain ⟨_, -, h⟩ := tw_bd h
  refine tw_M.of (by decide +kernel) (Nat.le_of_ble_eq_true rfl) (fun p e s m args below meth c hnm hO => ?_)
  have hO : tw_O p s m args meth c cX5_starterIn RX5 4 (some .int) G := hO
  refine tw_iconst (v := 0) hO dX5_starterIn_0 (by decide) ?_
  refine tw_istore_n (lv' := [(2, .int 0), (0, .ref a), (1, .int x1)]) hO dX5_starterIn_1 rfl (by decide) rfl ?_
  refine tw_sub [1, 2, 0] rfl ?_
  exact wX5_starterIn_l2 hO _ _ _ _ _ _ h
theorem cfX5_userIn : tw_CF yX5_userIn cX5_userIn 6 (some .int) 2 := ⟨tw_w520, tw_w51, by decide +kernel, by decide +kernel, by decide +kernel⟩
theorem kX5_userIn {σ : tw_St} {a : Nat} {x1 : Int32} {x2 : Int32} {q : Int32} (h : fX5_userIn σ a x1 x2 = some q) : tw_is σ 5 a = some () := by
  unfold fX5_userIn at h
  obtain ⟨_, e1, -⟩ := tw_bd h
  exact e1
set_option maxRecDepth 100000 in
set_option maxHeartbeats 4000000 in
theorem wX5_userIn_b95 (hO : tw_O p s m args meth c cX5_userIn RX5 6 (some .int) G) {k2 : (tw_St → Nat → Int32 → Int32 → Int32 → Option (Int32))} (hk2 : ∀ (σ : tw_St) (a0 : Nat) (x1 : Int32) (x2 : Int32) (x3 : Int32) (q : Int32), k2 σ a0 x1 x2 x3 = some q → tw_X p l e rmX5_userIn s m args below meth c 6 G σ 0 0 (tw_Q below args s G 0 0 (some (.int q)) σ) 2 [(0, .ref a0), (1, .int x1), (2, .int x2), (3, .int x3)] []) {σ : tw_St} {a0 : Nat} {x1 : Int32} {x2 : Int32} {x3 : Int32} {q : Int32} (h : fX5_userIn_b95 k2 σ a0 x1 x2 x3 = some q) : tw_X p l e rmX5_userIn s m args below meth c 6 G σ 0 0 (tw_Q below args s G 0 0 (some (.int q)) σ) 95 [(0, .ref a0), (1, .int x1), (2, .int x2), (3, .int x3)] [] := by
  unfold fX5_userIn_b95 at h
  refine tw_iinc (q := 3) (v := (x3 + 1)) (lv' := [(3, .int (x3 + 1)), (0, .ref a0), (1, .int x1), (2, .int x2)]) hO dX5_userIn_95 rfl rfl (by decide) rfl ?_
  refine tw_goto (tgt := 2) hO dX5_userIn_98 (by decide) ?_
  refine tw_sub [1, 2, 3, 0] rfl ?_
  exact hk2 _ _ _ _ _ _ h
set_option maxRecDepth 100000 in
set_option maxHeartbeats 4000000 in
theorem wX5_userIn_b89 (hO : tw_O p s m args meth c cX5_userIn RX5 6 (some .int) G) {k2 : (tw_St → Nat → Int32 → Int32 → Int32 → Option (Int32))} {k10 : (tw_St → Nat → Int32 → Int32 → Int32 → Int32 → Option (Int32))} (hk2 : ∀ (σ : tw_St) (a0 : Nat) (x1 : Int32) (x2 : Int32) (x3 : Int32) (q : Int32), k2 σ a0 x1 x2 x3 = some q → tw_X p l e rmX5_userIn s m args below meth c 6 G σ 0 0 (tw_Q below args s G 0 0 (some (.int q)) σ) 2 [(0, .ref a0), (1, .int x1), (2, .int x2), (3, .int x3)] []) (hk10 : ∀ (σ : tw_St) (a0 : Nat) (x1 : Int32) (x2 : Int32) (x3 : Int32) (x4 : Int32) (q : Int32), k10 σ a0 x1 x2 x3 x4 = some q → tw_X p l e rmX5_userIn s m args below meth c 6 G σ 0 0 (tw_Q below args s G 0 0 (some (.int q)) σ) 10 [(0, .ref a0), (1, .int x1), (2, .int x2), (3, .int x3), (4, .int x4)] []) {σ : tw_St} {a0 : Nat} {x1 : Int32} {x2 : Int32} {x3 : Int32} {x4 : Int32} {q : Int32} (h : fX5_userIn_b89 k2 k10 σ a0 x1 x2 x3 x4 = some q) : tw_X p l e rmX5_userIn s m args below meth c 6 G σ 0 0 (tw_Q below args s G 0 0 (some (.int q)) σ) 89 [(0, .ref a0), (1, .int x1), (2, .int x2), (3, .int x3), (4, .int x4)] [] := by
  unfold fX5_userIn_b89 at h
  refine tw_iinc (q := 4) (v := (x4 + 1)) (lv' := [(4, .int (x4 + 1)), (0, .ref a0), (1, .int x1), (2, .int x2), (3, .int x3)]) hO dX5_userIn_89 rfl rfl (by decide) rfl ?_
  refine tw_goto (tgt := 10) hO dX5_userIn_92 (by decide) ?_
  refine tw_sub [1, 2, 3, 4, 0] rfl ?_
  exact hk10 _ _ _ _ _ _ _ h
set_option maxRecDepth 100000 in
set_option maxHeartbeats 4000000 in
theorem wX5_userIn_b52 (hO : tw_O p s m args meth c cX5_userIn RX5 6 (some .int) G) {k2 : (tw_St → Nat → Int32 → Int32 → Int32 → Option (Int32))} {k10 : (tw_St → Nat → Int32 → Int32 → Int32 → Int32 → Option (Int32))} (hk2 : ∀ (σ : tw_St) (a0 : Nat) (x1 : Int32) (x2 : Int32) (x3 : Int32) (q : Int32), k2 σ a0 x1 x2 x3 = some q → tw_X p l e rmX5_userIn s m args below meth c 6 G σ 0 0 (tw_Q below args s G 0 0 (some (.int q)) σ) 2 [(0, .ref a0), (1, .int x1), (2, .int x2), (3, .int x3)] []) (hk10 : ∀ (σ : tw_St) (a0 : Nat) (x1 : Int32) (x2 : Int32) (x3 : Int32) (x4 : Int32) (q : Int32), k10 σ a0 x1 x2 x3 x4 = some q → tw_X p l e rmX5_userIn s m args below meth c 6 G σ 0 0 (tw_Q below args s G 0 0 (some (.int q)) σ) 10 [(0, .ref a0), (1, .int x1), (2, .int x2), (3, .int x3), (4, .int x4)] []) {σ : tw_St} {a0 : Nat} {x1 : Int32} {x2 : Int32} {x3 : Int32} {x4 : Int32} {z0 : Int32} {q : Int32} (h : fX5_userIn_b52 k2 k10 σ a0 x1 x2 x3 x4 z0 = some q) : tw_X p l e rmX5_userIn s m args below meth c 6 G σ 0 0 (tw_Q below args s G 0 0 (some (.int q)) σ) 52 [(0, .ref a0), (1, .int x1), (2, .int x2), (3, .int x3), (4, .int x4)] [.int z0] := by
  unfold fX5_userIn_b52 at h
  refine tw_istore (lv' := [(5, .int z0), (0, .ref a0), (1, .int x1), (2, .int x2), (3, .int x3), (4, .int x4)]) hO dX5_userIn_52 (by decide) rfl ?_
  refine tw_iload 0 hO dX5_userIn_54 rfl ?_
  refine tw_if_eq (tgt := 89) hO dX5_userIn_56 (by decide) (fun cc => ?_) (fun cc => ?_)
  · replace h := tw_ifp cc h
    refine tw_sub [1, 2, 3, 4, 5] rfl ?_
    exact wX5_userIn_b89 hO hk2 hk10 h
  · replace h := tw_ifn cc h
    refine tw_aload_n 1 hO dX5_userIn_59 rfl rfl ?_
    obtain ⟨v60, e60, h⟩ := tw_bd h
    refine tw_getP hO dX5_userIn_60 (t := 5) rfl 6 (by decide) rfl tw_w153 rfl e60 ?_
    obtain ⟨v63, e63, h⟩ := tw_bd h
    refine tw_getP hO dX5_userIn_63 (t := 6) rfl 1 (by decide) rfl tw_w97 rfl e63 ?_
    refine tw_iload_n 4 hO dX5_userIn_66 rfl rfl ?_
    obtain ⟨v67, e67, h⟩ := tw_bd h
    refine tw_aald hO dX5_userIn_67 (by decide) (by decide) e67 ?_
    refine tw_aload_n 1 hO dX5_userIn_68 rfl rfl ?_
    obtain ⟨v69, e69, h⟩ := tw_bd h
    refine tw_getP hO dX5_userIn_69 (t := 5) rfl 0 (by decide) rfl tw_w141 rfl e69 ?_
    refine tw_iload_n 4 hO dX5_userIn_72 rfl rfl ?_
    obtain ⟨v73, e73, h⟩ := tw_bd h
    refine tw_aald hO dX5_userIn_73 (by decide) (by decide) e73 ?_
    obtain ⟨v74, e74, h⟩ := tw_bd h
    refine tw_getP hO dX5_userIn_74 (t := 2) rfl 2 (by decide) rfl tw_w127 rfl e74 ?_
    refine tw_iload 5 hO dX5_userIn_77 rfl ?_
    obtain ⟨v79, e79, h⟩ := tw_bd h
    refine tw_iald hO dX5_userIn_79 e79 ?_
    obtain ⟨v80, e80, h⟩ := tw_bd h
    refine tw_cVi hO (mX3_roomOf l G e80) cfX3_roomOf (t := 3) rfl (kX3_roomOf e80) tw_w356 tw_w357 tw_w358 rfl rfl rfl rfl ⟨(Nat.le_of_ble_eq_true rfl), (Nat.le_of_ble_eq_true rfl)⟩ (Nat.le_of_ble_eq_true rfl) ⟨(Nat.le_of_ble_eq_true rfl), (Nat.le_of_ble_eq_true rfl)⟩ dX5_userIn_80 ?_
    refine tw_iload_n 3 hO dX5_userIn_83 rfl rfl ?_
    refine tw_icmp_ne (tgt := 89) hO dX5_userIn_84 (by decide) (fun cc => ?_) (fun cc => ?_)
    · replace h := tw_ifn cc h
      refine tw_sub [1, 2, 3, 4, 5] rfl ?_
      exact wX5_userIn_b89 hO hk2 hk10 h
    · replace h := tw_ifp cc h
      refine tw_iload_n 4 hO dX5_userIn_87 rfl rfl ?_
      exact tw_iretR hO dX5_userIn_88 h
set_option maxRecDepth 100000 in
set_option maxHeartbeats 4000000 in
theorem wX5_userIn_b51 (hO : tw_O p s m args meth c cX5_userIn RX5 6 (some .int) G) {k2 : (tw_St → Nat → Int32 → Int32 → Int32 → Option (Int32))} {k10 : (tw_St → Nat → Int32 → Int32 → Int32 → Int32 → Option (Int32))} (hk2 : ∀ (σ : tw_St) (a0 : Nat) (x1 : Int32) (x2 : Int32) (x3 : Int32) (q : Int32), k2 σ a0 x1 x2 x3 = some q → tw_X p l e rmX5_userIn s m args below meth c 6 G σ 0 0 (tw_Q below args s G 0 0 (some (.int q)) σ) 2 [(0, .ref a0), (1, .int x1), (2, .int x2), (3, .int x3)] []) (hk10 : ∀ (σ : tw_St) (a0 : Nat) (x1 : Int32) (x2 : Int32) (x3 : Int32) (x4 : Int32) (q : Int32), k10 σ a0 x1 x2 x3 x4 = some q → tw_X p l e rmX5_userIn s m args below meth c 6 G σ 0 0 (tw_Q below args s G 0 0 (some (.int q)) σ) 10 [(0, .ref a0), (1, .int x1), (2, .int x2), (3, .int x3), (4, .int x4)] []) {σ : tw_St} {a0 : Nat} {x1 : Int32} {x2 : Int32} {x3 : Int32} {x4 : Int32} {q : Int32} (h : fX5_userIn_b51 k2 k10 σ a0 x1 x2 x3 x4 = some q) : tw_X p l e rmX5_userIn s m args below meth c 6 G σ 0 0 (tw_Q below args s G 0 0 (some (.int q)) σ) 51 [(0, .ref a0), (1, .int x1), (2, .int x2), (3, .int x3), (4, .int x4)] [] := by
  unfold fX5_userIn_b51 at h
  refine tw_iconst (v := 0) hO dX5_userIn_51 (by decide) ?_
  exact wX5_userIn_b52 hO hk2 hk10 h
set_option maxRecDepth 100000 in
set_option maxHeartbeats 4000000 in
theorem wX5_userIn_h10 (hO : tw_O p s m args meth c cX5_userIn RX5 6 (some .int) G) {k2 : (tw_St → Nat → Int32 → Int32 → Int32 → Option (Int32))} {k10 : (tw_St → Nat → Int32 → Int32 → Int32 → Int32 → Option (Int32))} (hk2 : ∀ (σ : tw_St) (a0 : Nat) (x1 : Int32) (x2 : Int32) (x3 : Int32) (q : Int32), k2 σ a0 x1 x2 x3 = some q → tw_X p l e rmX5_userIn s m args below meth c 6 G σ 0 0 (tw_Q below args s G 0 0 (some (.int q)) σ) 2 [(0, .ref a0), (1, .int x1), (2, .int x2), (3, .int x3)] []) (hk10 : ∀ (σ : tw_St) (a0 : Nat) (x1 : Int32) (x2 : Int32) (x3 : Int32) (x4 : Int32) (q : Int32), k10 σ a0 x1 x2 x3 x4 = some q → tw_X p l e rmX5_userIn s m args below meth c 6 G σ 0 0 (tw_Q below args s G 0 0 (some (.int q)) σ) 10 [(0, .ref a0), (1, .int x1), (2, .int x2), (3, .int x3), (4, .int x4)] []) {σ : tw_St} {a0 : Nat} {x1 : Int32} {x2 : Int32} {x3 : Int32} {x4 : Int32} {q : Int32} (h : fX5_userIn_h10 k2 k10 σ a0 x1 x2 x3 x4 = some q) : tw_X p l e rmX5_userIn s m args below meth c 6 G σ 0 0 (tw_Q below args s G 0 0 (some (.int q)) σ) 10 [(0, .ref a0), (1, .int x1), (2, .int x2), (3, .int x3), (4, .int x4)] [] := by
  unfold fX5_userIn_h10 at h
  refine tw_iload 4 hO dX5_userIn_10 rfl ?_
  refine tw_aload_n 0 hO dX5_userIn_12 rfl rfl ?_
  obtain ⟨v13, e13, h⟩ := tw_bd h
  refine tw_getP hO dX5_userIn_13 (t := 5) rfl 1 (by decide) rfl tw_w143 rfl e13 ?_
  refine tw_iload_n 3 hO dX5_userIn_16 rfl rfl ?_
  obtain ⟨v17, e17, h⟩ := tw_bd h
  refine tw_iald hO dX5_userIn_17 e17 ?_
  refine tw_icmp_ge (tgt := 95) hO dX5_userIn_18 (by decide) (fun cc => ?_) (fun cc => ?_)
  · replace h := tw_ifp cc h
    refine tw_sub [0, 1, 2, 3] rfl ?_
    exact wX5_userIn_b95 hO hk2 h
  · replace h := tw_ifn cc h
    refine tw_aload_n 0 hO dX5_userIn_21 rfl rfl ?_
    obtain ⟨v22, e22, h⟩ := tw_bd h
    refine tw_getP hO dX5_userIn_22 (t := 5) rfl 3 (by decide) rfl tw_w147 rfl e22 ?_
    refine tw_iload_n 3 hO dX5_userIn_25 rfl rfl ?_
    obtain ⟨v26, e26, h⟩ := tw_bd h
    refine tw_aald hO dX5_userIn_26 (by decide) (by decide) e26 ?_
    refine tw_iload 4 hO dX5_userIn_27 rfl ?_
    obtain ⟨v29, e29, h⟩ := tw_bd h
    refine tw_iald hO dX5_userIn_29 e29 ?_
    refine tw_iload_n 1 hO dX5_userIn_30 rfl rfl ?_
    refine tw_icmp_gt (tgt := 51) hO dX5_userIn_31 (by decide) (fun cc => ?_) (fun cc => ?_)
    · replace h := tw_ifp cc h
      exact wX5_userIn_b51 hO hk2 hk10 h
    · replace h := tw_ifn cc h
      refine tw_iload_n 1 hO dX5_userIn_34 rfl rfl ?_
      refine tw_aload_n 0 hO dX5_userIn_35 rfl rfl ?_
      obtain ⟨v36, e36, h⟩ := tw_bd h
      refine tw_getP hO dX5_userIn_36 (t := 5) rfl 4 (by decide) rfl tw_w149 rfl e36 ?_
      refine tw_iload_n 3 hO dX5_userIn_39 rfl rfl ?_
      obtain ⟨v40, e40, h⟩ := tw_bd h
      refine tw_aald hO dX5_userIn_40 (by decide) (by decide) e40 ?_
      refine tw_iload 4 hO dX5_userIn_41 rfl ?_
      obtain ⟨v43, e43, h⟩ := tw_bd h
      refine tw_iald hO dX5_userIn_43 e43 ?_
      refine tw_icmp_ge (tgt := 51) hO dX5_userIn_44 (by decide) (fun cc => ?_) (fun cc => ?_)
      · replace h := tw_ifp cc h
        exact wX5_userIn_b51 hO hk2 hk10 h
      · replace h := tw_ifn cc h
        refine tw_iconst (v := 1) hO dX5_userIn_47 (by decide) ?_
        refine tw_goto (tgt := 52) hO dX5_userIn_48 (by decide) ?_
        exact wX5_userIn_b52 hO hk2 hk10 h
set_option maxRecDepth 100000 in
set_option maxHeartbeats 4000000 in
theorem wX5_userIn_l10 (hO : tw_O p s m args meth c cX5_userIn RX5 6 (some .int) G) {k2 : (tw_St → Nat → Int32 → Int32 → Int32 → Option (Int32))} (hk2 : ∀ (σ : tw_St) (a0 : Nat) (x1 : Int32) (x2 : Int32) (x3 : Int32) (q : Int32), k2 σ a0 x1 x2 x3 = some q → tw_X p l e rmX5_userIn s m args below meth c 6 G σ 0 0 (tw_Q below args s G 0 0 (some (.int q)) σ) 2 [(0, .ref a0), (1, .int x1), (2, .int x2), (3, .int x3)] []) : ∀ (n : Nat) (σ : tw_St) (a0 : Nat) (x1 : Int32) (x2 : Int32) (x3 : Int32) (x4 : Int32) (q : Int32), fX5_userIn_l10 k2 n σ a0 x1 x2 x3 x4 = some q → tw_X p l e rmX5_userIn s m args below meth c 6 G σ 0 0 (tw_Q below args s G 0 0 (some (.int q)) σ) 10 [(0, .ref a0), (1, .int x1), (2, .int x2), (3, .int x3), (4, .int x4)] [] := by
  intro n
  induction n with
  | zero => intro _ _ _ _ _ _ q h; cases (show (none : Option (Int32)) = some q from h)
  | succ n ih => intro _ _ _ _ _ _ q h; exact wX5_userIn_h10 hO hk2 ih h
set_option maxRecDepth 100000 in
set_option maxHeartbeats 4000000 in
theorem wX5_userIn_h2 (hO : tw_O p s m args meth c cX5_userIn RX5 6 (some .int) G) {k2 : (tw_St → Nat → Int32 → Int32 → Int32 → Option (Int32))} (hk2 : ∀ (σ : tw_St) (a0 : Nat) (x1 : Int32) (x2 : Int32) (x3 : Int32) (q : Int32), k2 σ a0 x1 x2 x3 = some q → tw_X p l e rmX5_userIn s m args below meth c 6 G σ 0 0 (tw_Q below args s G 0 0 (some (.int q)) σ) 2 [(0, .ref a0), (1, .int x1), (2, .int x2), (3, .int x3)] []) {σ : tw_St} {a0 : Nat} {x1 : Int32} {x2 : Int32} {x3 : Int32} {q : Int32} (h : fX5_userIn_h2 k2 σ a0 x1 x2 x3 = some q) : tw_X p l e rmX5_userIn s m args below meth c 6 G σ 0 0 (tw_Q below args s G 0 0 (some (.int q)) σ) 2 [(0, .ref a0), (1, .int x1), (2, .int x2), (3, .int x3)] [] := by
  unfold fX5_userIn_h2 at h
  refine tw_iload_n 3 hO dX5_userIn_2 rfl rfl ?_
  refine tw_iconst (v := 2) hO dX5_userIn_3 (by decide) ?_
  refine tw_icmp_ge (tgt := 101) hO dX5_userIn_4 (by decide) (fun cc => ?_) (fun cc => ?_)
  · replace h := tw_ifp cc h
    refine tw_bipush (v := (-6)) hO dX5_userIn_101 (by decide) ?_
    exact tw_iretR hO dX5_userIn_103 h
  · replace h := tw_ifn cc h
    refine tw_iconst (v := 0) hO dX5_userIn_7 (by decide) ?_
    refine tw_istore (lv' := [(4, .int 0), (0, .ref a0), (1, .int x1), (2, .int x2), (3, .int x3)]) hO dX5_userIn_8 (by decide) rfl ?_
    refine tw_sub [1, 2, 3, 4, 0] rfl ?_
    exact wX5_userIn_l10 hO hk2 _ _ _ _ _ _ _ _ h
set_option maxRecDepth 100000 in
set_option maxHeartbeats 4000000 in
theorem wX5_userIn_l2 (hO : tw_O p s m args meth c cX5_userIn RX5 6 (some .int) G) : ∀ (n : Nat) (σ : tw_St) (a0 : Nat) (x1 : Int32) (x2 : Int32) (x3 : Int32) (q : Int32), fX5_userIn_l2 n σ a0 x1 x2 x3 = some q → tw_X p l e rmX5_userIn s m args below meth c 6 G σ 0 0 (tw_Q below args s G 0 0 (some (.int q)) σ) 2 [(0, .ref a0), (1, .int x1), (2, .int x2), (3, .int x3)] [] := by
  intro n
  induction n with
  | zero => intro _ _ _ _ _ q h; cases (show (none : Option (Int32)) = some q from h)
  | succ n ih => intro _ _ _ _ _ q h; exact wX5_userIn_h2 hO ih h
set_option maxRecDepth 100000 in
set_option maxHeartbeats 4000000 in
theorem mX5_userIn (l : Launch) (G : tw_G) {σ : tw_St} {a : Nat} {x1 : Int32} {x2 : Int32} {q : Int32} (h : fX5_userIn σ a x1 x2 = some q) : tw_M l G yX5_userIn cX5_userIn 6 (some .int) rmX5_userIn 0 0 σ [.ref a, .int x1, .int x2] (some (.int q)) σ := by
  unfold fX5_userIn at h
  obtain ⟨_, -, h⟩ := tw_bd h
  refine tw_M.of (by decide +kernel) (Nat.le_of_ble_eq_true rfl) (fun p e s m args below meth c hnm hO => ?_)
  have hO : tw_O p s m args meth c cX5_userIn RX5 6 (some .int) G := hO
  refine tw_iconst (v := 0) hO dX5_userIn_0 (by decide) ?_
  refine tw_istore_n (lv' := [(3, .int 0), (0, .ref a), (1, .int x1), (2, .int x2)]) hO dX5_userIn_1 rfl (by decide) rfl ?_
  refine tw_sub [1, 2, 3, 0] rfl ?_
  exact wX5_userIn_l2 hO _ _ _ _ _ _ _ h
theorem cfX5_ticksIn : tw_CF yX5_ticksIn cX5_ticksIn 2 (some .int) 1 := ⟨tw_w528, tw_w51, by decide +kernel, by decide +kernel, by decide +kernel⟩
theorem kX5_ticksIn {σ : tw_St} {a : Nat} {x1 : Int32} {q : Int32} (h : fX5_ticksIn σ a x1 = some q) : tw_is σ 5 a = some () := by
  unfold fX5_ticksIn at h
  obtain ⟨_, e1, -⟩ := tw_bd h
  exact e1
set_option maxRecDepth 100000 in
set_option maxHeartbeats 4000000 in
theorem mX5_ticksIn (l : Launch) (G : tw_G) {σ : tw_St} {a : Nat} {x1 : Int32} {q : Int32} (h : fX5_ticksIn σ a x1 = some q) : tw_M l G yX5_ticksIn cX5_ticksIn 2 (some .int) rmX5_ticksIn 0 0 σ [.ref a, .int x1] (some (.int q)) σ := by
  unfold fX5_ticksIn at h
  obtain ⟨_, -, h⟩ := tw_bd h
  refine tw_M.of (by decide +kernel) (Nat.le_of_ble_eq_true rfl) (fun p e s m args below meth c hnm hO => ?_)
  have hO : tw_O p s m args meth c cX5_ticksIn RX5 2 (some .int) G := hO
  refine tw_aload_n 0 hO dX5_ticksIn_0 rfl rfl ?_
  refine tw_iconst (v := 0) hO dX5_ticksIn_1 (by decide) ?_
  refine tw_iload_n 1 hO dX5_ticksIn_2 rfl rfl ?_
  obtain ⟨v3, e3, h⟩ := tw_bd h
  refine tw_cVi hO (mX5_stepsIn l G e3) cfX5_stepsIn (t := 5) rfl (kX5_stepsIn e3) tw_w529 tw_w494 tw_w495 rfl rfl rfl rfl ⟨(Nat.le_of_ble_eq_true rfl), (Nat.le_of_ble_eq_true rfl)⟩ (Nat.le_of_ble_eq_true rfl) ⟨(Nat.le_of_ble_eq_true rfl), (Nat.le_of_ble_eq_true rfl)⟩ dX5_ticksIn_3 ?_
  refine tw_aload_n 0 hO dX5_ticksIn_6 rfl rfl ?_
  refine tw_iconst (v := 1) hO dX5_ticksIn_7 (by decide) ?_
  refine tw_iload_n 1 hO dX5_ticksIn_8 rfl rfl ?_
  obtain ⟨v9, e9, h⟩ := tw_bd h
  refine tw_cVi hO (mX5_stepsIn l G e9) cfX5_stepsIn (t := 5) rfl (kX5_stepsIn e9) tw_w529 tw_w494 tw_w495 rfl rfl rfl rfl ⟨(Nat.le_of_ble_eq_true rfl), (Nat.le_of_ble_eq_true rfl)⟩ (Nat.le_of_ble_eq_true rfl) ⟨(Nat.le_of_ble_eq_true rfl), (Nat.le_of_ble_eq_true rfl)⟩ dX5_ticksIn_9 ?_
  refine tw_iadd hO dX5_ticksIn_12 ?_
  refine tw_aload_n 0 hO dX5_ticksIn_13 rfl rfl ?_
  obtain ⟨v14, e14, h⟩ := tw_bd h
  refine tw_getP hO dX5_ticksIn_14 (t := 5) rfl 6 (by decide) rfl tw_w153 rfl e14 ?_
  refine tw_iload_n 1 hO dX5_ticksIn_17 rfl rfl ?_
  obtain ⟨v18, e18, h⟩ := tw_bd h
  refine tw_cVi hO (mX6_ticksFor l G e18) cfX6_ticksFor (t := 6) rfl (kX6_ticksFor e18) tw_w374 tw_w375 tw_w376 rfl rfl rfl rfl ⟨(Nat.le_of_ble_eq_true rfl), (Nat.le_of_ble_eq_true rfl)⟩ (Nat.le_of_ble_eq_true rfl) ⟨(Nat.le_of_ble_eq_true rfl), (Nat.le_of_ble_eq_true rfl)⟩ dX5_ticksIn_18 ?_
  refine tw_imul hO dX5_ticksIn_21 ?_
  exact tw_iretR hO dX5_ticksIn_22 h
end TW_05d_X5
